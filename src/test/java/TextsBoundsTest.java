import java.util.ArrayList;
import java.util.List;

/** The boundaries that the promises 48 to 59 name: texts, lines, denials, undo and snapshots. */
public final class TextsBoundsTest extends Bounds {
    /** Eight commands in exactly 60 characters. */
    private static final String FULL_TEXT = "wait 10;wait 10;wait 10;wait 10;wait 10;wait 1;wait 1;wait 1";
    /** As many commands as 60 characters can hold, in 59 of them. */
    private static final String MOST_COMMANDS = "land;land;land;land;land;land;land;land;land;land;land;land";

    private TextsBoundsTest() {
    }

    public static void main(String[] args) {
        runAll(TextsBoundsTest.class);
    }

    private static Step text(String text) {
        return x -> feed(x, text);
    }

    // ---- promise 48

    @Sentence(under = "Promise 48: feed", says = "- `character`: any character")
    static void feedTakesAnyCharacter() {
        char[] signs = {0, 1, '\n', ' ', '~', 127, 128, 255, 256, '\ud800', '\udfff', '\uffff'};
        for (int i = 0; i < signs.length; i++) {
            eq("length", f.feed(signs[i]), i + 1);
        }
    }

    @Sentence(under = "Promise 48: feed", says = "Returns the length of the buffer afterwards.")
    static void feedReturns1To60() {
        for (int length = 1; length <= 60; length++) {
            eq("length", f.feed('x'), length);
        }
        Check.thrown("execute", BAD, () -> f.execute());
        eq("in the empty buffer", f.feed('x'), 1);
    }

    @Sentence(under = "Promise 48: feed", says = "Throws `IllegalStateException` if the buffer has 60 characters")
    static void feedRefusesThe61st() {
        // The buffer of these holds "wait 7" already.
        Step full = text(";" + FULL_TEXT.substring(7));
        refuses("the 61st character", STATE, full, x -> x.feed('x'));
        refuses("the 61st character", STATE, full, x -> x.feed(';'));
        refuses("the 61st character", STATE, full, x -> x.feed((char) 0));
        refuses("the 61st character", STATE, full, x -> x.feed('\uffff'));
        feed(f, FULL_TEXT.substring(1));
        eq("the 60th character", f.feed('1'), 60);
        Check.thrown("the 61st character", STATE, () -> f.feed('1'));
    }

    // ---- promise 49

    @Sentence(under = "Promise 49: execute", says = "Parses the text buffer and executes its commands in their order, either all of them or none.")
    static void executeMakesAllOrNone() {
        eq("a full buffer", run(f, FULL_TEXT), 8);
        eq("all of it", f.day(), 53);
        fails("land;wait 1;wait 1", 0, 7, NOTHING);
        fails("wait 1;land;wait 1", 1, 7, NOTHING);
        fails("wait 1;wait 1;land", 2, 7, NOTHING);
        fails("note 0 1;net 0+1 1;cite 0>1", 2, 10, NOTHING);
        fails("wait 30;note 1 1;note 2 2;cite 0>1;current 1=1;cut 0", 5, 10, NOTHING);
        fails("licence;haul 0;free 0;haul 0;land;licence", 5, 8, both(day(30), both(floating(20, 10, 20), day(60))));
        fails("haul 0;land;cut 0;haul 0", 3, 10, floating(20, 10, 20));
        f = made(floating(20, 10, 20));
        eq("in their order", run(f, "haul 0;land;cut 0;wait 30;licence"), 5);
        Check.same("in their order", states(f), "fl");
        eq("in their order", f.coins(), 70);
    }

    @Sentence(under = "Promise 49: execute", says = "The buffer is empty afterwards, even if an exception is thrown.")
    static void executeEmptiesTheBuffer() {
        run(f, FULL_TEXT);
        eq("after a text", f.feed('x'), 1);
        Check.thrown("a fault", BAD, () -> f.execute());
        eq("after a fault", f.feed('l'), 1);
        feed(f, "and");
        Check.thrown("a failing text", DENIED, () -> f.execute());
        eq("after a failing text", f.feed('x'), 1);
        Check.thrown("a fault of one character", BAD, () -> f.execute());
        eq("its position", f.faultPosition(), 0);
    }

    @Sentence(under = "Promise 49: execute", says = "Returns the number of commands.")
    static void executeReturns1To10() {
        eq("one command", run(f, "wait 1"), 1);
        f = made(floating(0, 1));
        // No text of 60 characters has more commands that all hold.
        eq("ten commands", run(f, "haul 0;land;haul 0;land;haul 0;land;haul 0;land;haul 0;land"), 10);
        eq("all of them", f.returned(), 5);
    }

    @Sentence(under = "Promise 49: execute", says = "Throws `IllegalArgumentException` if the buffer does not match the grammar; the fault position is kept")
    static void executeRefusesOtherTexts() {
        faults("", 0, notes(3));
        faults("x", 0, notes(3));
        faults("wait 1;", 7, notes(3));
        faults("wait 1;wait 41x", 14, notes(3));
        faults("land;cut 0;x", 11, notes(3));
        faults(FULL_TEXT.substring(0, 59) + ";", 59, notes(3));
        faults(FULL_TEXT.substring(0, 59) + "x", 59, notes(3));
        faults(MOST_COMMANDS + ";", 60, notes(3));
        faults(MOST_COMMANDS + "x", 59, notes(3));
    }

    @Sentence(under = "Promise 49: execute", says = "Throws `UnsupportedOperationException` if denied: 9")
    static void executeIsDenied9() {
        fails("land", 0, 7, NOTHING);
        fails(MOST_COMMANDS, 0, 7, NOTHING);
        fails(MOST_COMMANDS, 1, 7, held(99, 1));
        // No text of 60 characters has more commands ahead of one that fails.
        fails("land;cut 1;cut 1;cut 1;cut 1;haul 0;land;haul 0;land;land", 9, 7, both(held(0, 1), nets(4)));
        fails("wait 41", 0, 10, NOTHING);
    }

    // ---- promise 50

    @Sentence(under = "Promise 50: faultPosition", says = "Returns the fault position that was kept last.")
    static void faultPositionIs0To60() {
        Check.thrown("an empty text", BAD, () -> f.execute());
        eq("the least", f.faultPosition(), 0);
        Check.thrown("a text that ends too early", BAD, () -> run(f, MOST_COMMANDS + ";"));
        eq("the greatest", f.faultPosition(), 60);
        run(f, "wait 1");
        eq("kept after a text", f.faultPosition(), 60);
        Check.thrown("a failing text", DENIED, () -> run(f, "land"));
        eq("kept after a failing text", f.faultPosition(), 60);
        Check.thrown("another fault", BAD, () -> run(f, "lx"));
        eq("the last one", f.faultPosition(), 1);
    }

    @Sentence(under = "Promise 50: faultPosition", says = "Throws `NoSuchElementException` if none was kept yet")
    static void faultPositionNeedsAFault() {
        refusesBare("at first", NONE, NOTHING, x -> x.faultPosition());
        refusesBare("with a wrong text in the buffer", NONE, text("x"), x -> x.faultPosition());
        refusesBare("after a text", NONE, x -> run(x, "wait 1"), x -> x.faultPosition());
        refusesBare("after a failing text", NONE, x -> Check.thrown("land", DENIED, () -> run(x, "land")), x -> x.faultPosition());
        Check.thrown("an empty text", BAD, () -> f.execute());
        eq("the first fault", f.faultPosition(), 0);
    }

    // ---- promises 51 and 52

    @Sentence(under = "Promise 51: writeNote", says = "Returns the length of the line.")
    static void writeNoteReturns6To26() {
        f.addNote(0, 1);
        eq("the shortest line", f.writeNote(0), 6);
        lineIs("0p0w1f");
        f = made(x -> {
            notes(9).on(x);
            x.addNote(11, 30);
            for (int other = 0; other < 9; other++) {
                x.cite(9, other);
            }
        });
        eq("the longest line", f.writeNote(9), 26);
        lineIs("9p11w30f>0>1>2>3>4>5>6>7>8");
        f.writeNote(0);
        lineIs("0p0w10f");
    }

    @Sentence(under = "Promise 51: writeNote",
        says = "the number, \"p\" and its page, \"w\" and its weight, the character of stateOf, and for each note that it cites, in ascending order, \">\" and its number.")
    static void writeNoteWritesEachState() {
        f = made(floating(9, 9, 10));
        f.cite(1, 0);
        f.writeNote(1);
        lineIs("1p0w10f>0");
        f.haul(0);
        f.writeNote(1);
        lineIs("1p0w10h>0");
        f.land();
        f.writeNote(0);
        lineIs("0p0w9l");
        notes(8).on(f);
        f.cite(1, 9);
        f.cite(1, 2);
        f.writeNote(1);
        lineIs("1p0w10f>0>2>9");
    }

    @Sentence(under = "Promise 51: writeNote", says = "Example: \"3p11w7h>0>4\".")
    static void writeNoteWritesTheExample() {
        passTo(f, 30);
        notes(3).on(f);
        f.addNote(11, 7);
        f.addNote(0, 1);
        f.cite(3, 4);
        f.cite(3, 0);
        f.addNet(11, 1, 7);
        f.buyLicence();
        f.haul(0);
        eq("length", f.writeNote(3), 11);
        lineIs("3p11w7h>0>4");
    }

    private static void lineIs(String line) {
        for (int i = 0; i < line.length(); i++) {
            eq("character " + i + " of " + line, f.lineCharacter(i), line.charAt(i));
        }
        Check.thrown("after " + line, OUT, () -> f.lineCharacter(line.length()));
    }

    @Sentence(under = "Promise 51: writeNote", says = "Throws `NoSuchElementException` if there is no such note")
    static void writeNoteNeedsNote() {
        needsNote("writeNote", (x, note) -> x.writeNote(note));
        for (int wrong : outside(0, 2)) {
            refusesBare("a line stays", NONE, both(notes(3), x -> x.writeNote(1)), x -> x.writeNote(wrong));
        }
    }

    @Sentence(under = "Promise 52: lineCharacter", says = "Returns a character of the output line, which is initially empty.")
    static void lineIsInitiallyEmpty() {
        for (int index : new int[] {0, 1, -1, 25, 26, Integer.MAX_VALUE, Integer.MIN_VALUE}) {
            refusesBare("the index " + index, OUT, NOTHING, x -> x.lineCharacter(index));
        }
    }

    @Sentence(under = "Promise 52: lineCharacter", says = "- `index`: the index, from 0")
    static void lineCharacterTakesIndicesFrom0() {
        notes(1).on(f);
        f.writeNote(0);
        eq("the first", f.lineCharacter(0), '0');
        eq("the last", f.lineCharacter(6), 'f');
    }

    @Sentence(under = "Promise 52: lineCharacter", says = "Throws `IndexOutOfBoundsException` if there is no such index")
    static void lineCharacterNeedsIndex() {
        for (int wrong : outside(0, 6)) {
            refusesBare("the index " + wrong, OUT, both(notes(1), x -> x.writeNote(0)), x -> x.lineCharacter(wrong));
        }
        Step longer = both(notes(2), x -> {
            x.cite(0, 1);
            x.writeNote(0);
            x.writeNote(1);
        });
        refusesBare("an index of the line before", OUT, longer, x -> x.lineCharacter(7));
    }

    // ---- promises 53 to 55

    /** For each number of a denial: the steps ahead of it. */
    private static List<Step> stepsAheadOfDenials() {
        List<Step> steps = new ArrayList<>();
        steps.add(NOTHING);
        steps.add(notes(10));
        steps.add(nets(1));
        steps.add(both(nets(1), x -> x.buyLicence()));
        steps.add(notes(1));
        steps.add(notes(2));
        steps.add(TextsBoundsTest::spendAll);
        steps.add(NOTHING);
        steps.add(x -> x.buyLicence());
        steps.add(NOTHING);
        return steps;
    }

    /** For each number of a denial: a call that is denied for it. */
    private static List<Ask> deniedCalls() {
        List<Ask> calls = new ArrayList<>();
        calls.add(x -> "no denial has the number 0");
        calls.add(x -> x.addNote(0, 1));
        calls.add(x -> x.haul(0));
        calls.add(x -> x.haul(0));
        calls.add(x -> x.free(0));
        calls.add(x -> x.uncite(0, 1));
        calls.add(x -> x.buyLicence());
        calls.add(x -> x.land());
        calls.add(x -> x.buyLicence());
        calls.add(x -> run(x, "land"));
        return calls;
    }

    /** The same calls as texts. */
    private static final String[] DENIED_TEXTS = {
        "", "note 0 1", "haul 0", "haul 0", "free 0", "drop 0>1", "licence", "land", "licence",
    };
    private static final int[] DETAILS = {0, 10, 0, 1, 0, 0, 20, 0, 0, 0};

    private static void spendAll(FootnoteFishery x) {
        for (int season = 0; season < 4; season++) {
            x.buyLicence();
            x.pass(30);
        }
    }

    private static void denyNothing(FootnoteFishery x) {
        Check.answer(() -> x.addNote(12, 1));
        Check.answer(() -> x.cite(0, 1));
        Check.answer(() -> x.haul(0));
        Check.answer(() -> x.execute());
        Check.answer(() -> x.undo());
        Check.answer(() -> x.restoreSnapshot());
    }

    @Sentence(under = "Promise 53: denial", says = "Returns the number, 1 to 9.")
    static void denialIs1To9() {
        for (int number = 1; number <= 9; number++) {
            Ask call = deniedCalls().get(number);
            f = made(stepsAheadOfDenials().get(number));
            Check.thrown("call of the denial " + number, DENIED, () -> call.of(f));
            eq("denial", f.denial(), number);
        }
    }

    @Sentence(under = "Promise 53: denial", says = "Throws `NoSuchElementException` if nothing was denied yet")
    static void denialNeedsADenial() {
        refusesBare("at first", NONE, NOTHING, x -> x.denial());
        refusesBare("after other exceptions", NONE, TextsBoundsTest::denyNothing, x -> x.denial());
    }

    @Sentence(under = "Promise 54: denialDetail", says = "Returns the detail of the latest denial.")
    static void denialDetailOfEachDenial() {
        for (int number = 1; number <= 9; number++) {
            Ask call = deniedCalls().get(number);
            f = made(stepsAheadOfDenials().get(number));
            Check.thrown("call of the denial " + number, DENIED, () -> call.of(f));
            eq("detail of the denial " + number, f.denialDetail(), DETAILS[number]);
        }
    }

    @Sentence(under = "Promise 54: denialDetail", says = "Throws `NoSuchElementException` if nothing was denied yet")
    static void denialDetailNeedsADenial() {
        refusesBare("at first", NONE, NOTHING, x -> x.denialDetail());
        refusesBare("after other exceptions", NONE, TextsBoundsTest::denyNothing, x -> x.denialDetail());
    }

    @Sentence(under = "Promise 55: denialCause", says = "Returns the number, 1 to 8 or 10.")
    static void denialCauseIs1To8Or10() {
        for (int number = 1; number <= 8; number++) {
            String text = DENIED_TEXTS[number];
            f = made(stepsAheadOfDenials().get(number));
            Check.thrown(text, DENIED, () -> run(f, text));
            eq("denial", f.denial(), 9);
            eq("cause", f.denialCause(), number);
        }
        Check.thrown("no such net", DENIED, () -> run(f, "cut 9"));
        eq("cause", f.denialCause(), 10);
    }

    @Sentence(under = "Promise 55: denialCause", says = "Throws `NoSuchElementException` if nothing was denied yet, or the latest denial has no cause")
    static void denialCauseNeedsACause() {
        refusesBare("at first", NONE, NOTHING, x -> x.denialCause());
        refusesBare("after other exceptions", NONE, TextsBoundsTest::denyNothing, x -> x.denialCause());
        for (int number = 1; number <= 8; number++) {
            Ask call = deniedCalls().get(number);
            Step denied = both(stepsAheadOfDenials().get(number), x -> Check.thrown("denied", DENIED, () -> call.of(x)));
            refusesBare("after the denial " + number, NONE, denied, x -> x.denialCause());
        }
        Step cause = x -> Check.thrown("land", DENIED, () -> run(x, "land"));
        Step noCause = x -> Check.thrown("land", DENIED, () -> x.land());
        refusesBare("the latest has none, the one before had one", NONE, both(cause, noCause), x -> x.denialCause());
        f = made(both(noCause, cause));
        eq("the latest has one, the one before had none", f.denialCause(), 7);
    }

    // ---- promises 56 and 57

    private static Step quotas(int count) {
        return x -> {
            for (int i = 1; i <= count; i++) {
                x.setQuota(0, i);
            }
        };
    }

    @Sentence(under = "Promise 56: undo", says = "Returns the number of changes that can be undone afterwards.")
    static void undoReturns7To0() {
        quotas(9).on(f);
        for (int left = 7; left >= 0; left--) {
            eq("changes", f.undo(), left);
            eq("quota", f.quota(0), left + 1);
        }
    }

    @Sentence(under = "Promise 56: undo", says = "Throws `IllegalStateException` if there is none")
    static void undoNeedsAChange() {
        refusesBare("at first", STATE, NOTHING, x -> x.undo());
        refusesBare("all are undone", STATE, both(quotas(3), TextsBoundsTest::undoAll), x -> x.undo());
        refusesBare("the latest eight are undone", STATE, both(quotas(9), TextsBoundsTest::undoAll), x -> x.undo());
        refusesBare("after calls that are no changes", STATE, TextsBoundsTest::denyNothing, x -> x.undo());
        Step restored = both(quotas(3), x -> {
            x.saveSnapshot();
            x.restoreSnapshot();
        });
        refusesBare("a snapshot was restored", STATE, restored, x -> x.undo());
    }

    private static void undoAll(FootnoteFishery x) {
        for (int left = x.undoCount(); left > 0; left--) {
            x.undo();
        }
    }

    @Sentence(under = "Promise 57: undoCount", says = "Returns the number of changes.")
    static void undoCountIs0To8() {
        eq("at first", f.undoCount(), 0);
        for (int count = 1; count <= 20; count++) {
            f.setQuota(0, count);
            eq("changes", f.undoCount(), Math.min(count, 8));
        }
        for (int count = 7; count >= 0; count--) {
            f.undo();
            eq("changes", f.undoCount(), count);
        }
        Check.thrown("no more", STATE, () -> f.undo());
        eq("still none", f.undoCount(), 0);
        f.setQuota(0, 1);
        eq("one again", f.undoCount(), 1);
    }

    // ---- promises 58 and 59

    @Sentence(under = "Promise 58: saveSnapshot", says = "Returns the number of notes.")
    static void saveSnapshotReturns0To10() {
        eq("no notes", f.saveSnapshot(), 0);
        notes(10).on(f);
        eq("all notes", f.saveSnapshot(), 10);
    }

    @Sentence(under = "Promise 58: saveSnapshot", says = "it replaces an earlier snapshot")
    static void saveSnapshotReplaces() {
        notes(10).on(f);
        f.saveSnapshot();
        undoAll(f);
        f.saveSnapshot();
        notes(3).on(f);
        eq("the later one", f.restoreSnapshot(), 2);
        f.saveSnapshot();
        f.addNote(0, 1);
        eq("the latest one", f.restoreSnapshot(), 2);
    }

    @Sentence(under = "Promise 58: saveSnapshot", says = "Saves a snapshot of everything that changes can change")
    static void saveSnapshotSavesFullAndEmpty() {
        Step full = x -> {
            nets(4).on(x);
            x.addNet(0, 12, 10);
            notes(10).on(x);
            x.buyLicence();
            x.haul(4);
            x.free(9);
            x.land();
            x.haul(4);
            x.setCurrent(11, -1);
            x.cite(9, 0);
        };
        Step emptied = x -> {
            x.saveSnapshot();
            run(x, "cut 0;cut 0;cut 0;cut 0;drop 9>0;current 11=0;land");
            run(x, "wait 40;wait 40;licence;quota 0=0");
        };
        f = made(both(full, emptied));
        f.restoreSnapshot();
        String restored = Look.STATE.at(f);
        f = made(both(full, x -> x.saveSnapshot()));
        f.restoreSnapshot();
        Check.same("a full fishery", restored, Look.STATE.at(f));
        FootnoteFishery empty = made(x -> x.saveSnapshot());
        full.on(empty);
        empty.restoreSnapshot();
        Check.same("an empty fishery", Look.STATE.at(empty), Look.STATE.at(new FootnoteFishery()));
    }

    @Sentence(under = "Promise 59: restoreSnapshot", says = "Restores the snapshot, which is kept.")
    static void restoreSnapshotKeepsIt() {
        notes(3).on(f);
        f.saveSnapshot();
        for (int i = 0; i < 3; i++) {
            notes(2).on(f);
            eq("restored", f.restoreSnapshot(), 3);
            eq("notes", f.noteCount(), 3);
        }
        eq("restored without a change", f.restoreSnapshot(), 3);
    }

    @Sentence(under = "Promise 59: restoreSnapshot", says = "Restores the snapshot")
    static void restoreSnapshotOfWhatWasMadeAnew() {
        Step first = x -> {
            x.addNet(11, 2, 29);
            x.addNote(11, 30);
            x.addNote(0, 29);
            x.cite(0, 1);
        };
        Step second = x -> {
            undoAll(x);
            x.addNet(5, 3, 1);
            x.addNote(5, 1);
            x.addNote(6, 2);
            x.cite(1, 0);
        };
        f = made(first);
        f.saveSnapshot();
        second.on(f);
        eq("notes", f.restoreSnapshot(), 2);
        FootnoteFishery x = made(both(first, y -> y.saveSnapshot()));
        x.restoreSnapshot();
        Check.same("as it was", Look.STATE.at(f), Look.STATE.at(x));
    }

    @Sentence(under = "Promise 59: restoreSnapshot", says = "No change can be undone afterwards.")
    static void restoreSnapshotForgetsChanges() {
        quotas(20).on(f);
        f.saveSnapshot();
        eq("eight changes", f.undoCount(), 8);
        f.restoreSnapshot();
        eq("none", f.undoCount(), 0);
        Check.thrown("undo", STATE, () -> f.undo());
        f.setQuota(0, 50);
        eq("one change", f.undo(), 0);
        eq("undone", f.quota(0), 20);
    }

    @Sentence(under = "Promise 59: restoreSnapshot", says = "Returns the number of notes afterwards.")
    static void restoreSnapshotReturns0To10() {
        f.saveSnapshot();
        notes(10).on(f);
        eq("no notes", f.restoreSnapshot(), 0);
        notes(10).on(f);
        f.saveSnapshot();
        undoAll(f);
        eq("all notes", f.restoreSnapshot(), 10);
    }

    @Sentence(under = "Promise 59: restoreSnapshot", says = "Throws `IllegalStateException` if there is no snapshot")
    static void restoreSnapshotNeedsOne() {
        refusesBare("at first", STATE, NOTHING, x -> x.restoreSnapshot());
        refusesBare("with changes, a text and a line", STATE, both(both(notes(3), text("wait 7")), x -> x.writeNote(1)),
            x -> x.restoreSnapshot());
        f.saveSnapshot();
        eq("with one", f.restoreSnapshot(), 0);
    }
}
