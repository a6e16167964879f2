/**
 * What calls can tell of a fishery, in parts. Some of them change the fishery that they look at, so
 * each part is looked at on a fishery of its own; no part needs more than the 512 calls of an object.
 */
enum Look {
    /** Everything that changes can change, and the number of changes that can be undone. */
    STATE {
        @Override
        String at(FootnoteFishery x) {
            return counts(x) + notes(x) + pages(x) + nets(x);
        }
    },
    /** The output line. */
    LINE {
        @Override
        String at(FootnoteFishery x) {
            StringBuilder line = new StringBuilder();
            for (int i = 0; i < LONGEST; i++) {
                int index = i;
                line.append(Check.answer(() -> x.lineCharacter(index))).append(' ');
            }
            return line.toString();
        }
    },
    FAULT {
        @Override
        String at(FootnoteFishery x) {
            return Check.answer(() -> x.faultPosition());
        }
    },
    DENIAL {
        @Override
        String at(FootnoteFishery x) {
            return Check.answer(() -> x.denial()) + ' ' + Check.answer(() -> x.denialDetail()) + ' '
                + Check.answer(() -> x.denialCause());
        }
    },
    /** The text buffer, which only the execution of its text can tell whole. */
    BUFFER {
        @Override
        String at(FootnoteFishery x) {
            return Check.answer(() -> x.execute()) + ' ' + FAULT.at(x) + counts(x);
        }
    },
    /** The changes that can be undone. */
    UNDONE {
        @Override
        String at(FootnoteFishery x) {
            StringBuilder text = new StringBuilder();
            for (int i = 0; i < MOST_CHANGES; i++) {
                text.append(Check.answer(() -> x.undo())).append(counts(x));
            }
            return text.append(pages(x)).toString();
        }
    },
    /** The snapshot. */
    RESTORED {
        @Override
        String at(FootnoteFishery x) {
            return Check.answer(() -> x.restoreSnapshot()) + STATE.at(x);
        }
    };

    private static final int LONGEST = 30;
    private static final int MOST_CHANGES = 10;

    abstract String at(FootnoteFishery x);

    private static String counts(FootnoteFishery x) {
        return "\nnotes " + x.noteCount() + " nets " + x.netCount() + " licence " + x.hasLicence() + " day " + x.day()
            + " coins " + x.coins() + " caught " + x.caught() + " landed " + x.landed() + " returned " + x.returned()
            + " held " + x.heldCount() + " changes " + x.undoCount();
    }

    private static String notes(FootnoteFishery x) {
        StringBuilder text = new StringBuilder();
        for (int note = 0; note < x.noteCount(); note++) {
            text.append("\nnote ").append(x.pageOf(note)).append(' ').append(x.weightOf(note)).append(x.stateOf(note)).append(' ');
            for (int other = 0; other < x.noteCount(); other++) {
                text.append(x.doesCite(note, other) ? 1 : 0);
            }
        }
        return text.toString();
    }

    private static String pages(FootnoteFishery x) {
        StringBuilder text = new StringBuilder();
        for (int page = 0; page < 12; page++) {
            text.append("\npage ").append(x.current(page)).append(' ').append(x.quota(page)).append(' ').append(x.room(page));
        }
        return text.toString();
    }

    private static String nets(FootnoteFishery x) {
        StringBuilder text = new StringBuilder();
        for (int net = 0; net < x.netCount(); net++) {
            text.append("\nnet ").append(x.catchSize(net)).append(' ');
            for (int page = 0; page < 12; page++) {
                text.append(x.covers(net, page) ? 1 : 0);
            }
        }
        return text.toString();
    }
}
