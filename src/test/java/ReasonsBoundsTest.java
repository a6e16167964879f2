/** The boundaries that the 'Terms' of denials, texts, undo and exceptions name. */
public final class ReasonsBoundsTest extends Bounds {
    /** One text or more for each command; no shorter beginning of one of them is a text. */
    private static final String[] SAMPLES = {
        "note 1 2", "note 11 2", "cite 0>1", "drop 9>8", "current 1=1", "current 11=-1", "net 1+2 3", "net 10+12 3",
        "cut 0", "haul 9", "quota 1=2", "quota 11=2", "land", "free 0", "licence", "wait 1",
    };

    private ReasonsBoundsTest() {
    }

    public static void main(String[] args) {
        runAll(ReasonsBoundsTest.class);
    }

    // ---- denials

    @Sentence(under = "Terms", says = "Each method lists its possible denials in the order in which they are checked.")
    static void denialsAreCheckedInOrder() {
        denies("haul without a licence and with a small mesh", 2, 0, x -> x.addNet(0, 1, 1), x -> x.haul(0));
        Step broke = x -> {
            for (int season = 0; season < 4; season++) {
                passTo(x, 30 * season);
                x.buyLicence();
            }
        };
        denies("buyLicence with a licence and without coins", 8, 3, broke, x -> x.buyLicence());
    }

    @Sentence(under = "Terms", says = "Denial 1: a limit is reached; the detail is the limit.")
    static void denial1TellsTheLimit() {
        denies("notes", 1, 10, notes(10), x -> x.addNote(0, 1));
        denies("nets", 1, 5, nets(5), x -> x.addNet(0, 1, 1));
        eq("the last note", made(notes(9)).addNote(0, 1), 9);
        eq("the last net", made(nets(4)).addNet(0, 1, 1), 4);
    }

    @Sentence(under = "Terms", says = "Denial 2: there is no licence; the detail is the season.")
    static void denial2TellsTheSeason() {
        int[] days = {0, 29, 30, 59, 60, 89, 90, 119, 120};
        for (int day : days) {
            denies("day " + day, 2, day / 30 % 4, both(day(day), nets(1)), x -> x.haul(0));
        }
        denies("the licence of the season before", 2, 1, both(nets(1), x -> {
            x.buyLicence();
            x.pass(30);
        }), x -> x.haul(0));
    }

    @Sentence(under = "Terms", says = "Denial 3: the mesh is too small for the season; the detail is the mesh.")
    static void denial3TellsTheMesh() {
        Step licenceAndNets = x -> {
            x.addNet(0, 12, 10);
            x.addNet(0, 12, 9);
            x.addNet(0, 12, 1);
            x.buyLicence();
        };
        denies("the greatest mesh too small", 3, 9, licenceAndNets, x -> x.haul(1));
        denies("the least mesh", 3, 1, licenceAndNets, x -> x.haul(2));
        eq("the least mesh that is enough", made(licenceAndNets).haul(0), 0);
    }

    @Sentence(under = "Terms", says = "Denial 4: the note is not held; the detail is its number.")
    static void denial4TellsTheNote() {
        for (int note = 0; note < 10; note++) {
            int number = note;
            denies("a floating note", 4, note, notes(10), x -> x.free(number));
            denies("a landed note", 4, note, both(held(10, times(10, 1)), x -> x.land()), x -> x.free(number));
        }
    }

    @Sentence(under = "Terms", says = "Denial 5: the note cites the other one, or does not cite it; the detail is the number of notes that it cites.")
    static void denial5TellsTheCitations() {
        for (int count = 0; count < 10; count++) {
            int cited = count;
            Step citing = both(notes(10), x -> {
                for (int other = 1; other <= cited; other++) {
                    x.cite(0, other);
                }
            });
            if (count > 0) {
                denies("it cites the other one", 5, count, citing, x -> x.cite(0, 1));
            }
            if (count < 9) {
                denies("it does not cite it", 5, count, citing, x -> x.uncite(0, 9));
            }
        }
    }

    @Sentence(under = "Terms", says = "Denial 6: there are too few coins; the detail is the number of coins that are missing.")
    static void denial6TellsTheMissingCoins() {
        int[] prices = {20, 30, 40, 10};
        for (int season = 0; season < 4; season++) {
            // On the day 90 there are no coins; a note of the weight n brings 2 n.
            Step broke = x -> {
                for (int i = 0; i < 4; i++) {
                    passTo(x, 30 * i);
                    x.buyLicence();
                }
            };
            Step turn = day(120 + 30 * season);
            denies("all coins are missing", 6, prices[season], both(broke, turn), x -> x.buyLicence());
            Step nearly = both(broke, both(landing(prices[season] / 2 - 1), turn));
            denies("two coins are missing", 6, 2, nearly, x -> x.buyLicence());
            Step enough = both(broke, both(landing(prices[season] / 2), turn));
            eq("none is missing", made(enough).buyLicence(), 0);
        }
    }

    private static Step landing(int weight) {
        return x -> {
            x.addNet(0, 1, 1);
            x.addNote(0, weight);
            x.haul(0);
            x.land();
        };
    }

    @Sentence(under = "Terms", says = "Denial 7: the hold is empty; the detail is the number of floating notes.")
    static void denial7TellsTheFloatingNotes() {
        for (int count = 0; count <= 10; count++) {
            denies("floating notes", 7, count, notes(count), x -> x.land());
        }
        denies("nine landed, one returned", 7, 1, both(held(9, times(10, 1)), x -> x.land()), x -> x.land());
        denies("all landed", 7, 0, both(held(10, times(10, 1)), x -> x.land()), x -> x.land());
    }

    @Sentence(under = "Terms", says = "Denial 8: there is a licence; the detail is the season.")
    static void denial8TellsTheSeason() {
        int[] days = {0, 29, 30, 59, 60, 89, 90, 119, 120};
        for (int day : days) {
            denies("day " + day, 8, day / 30 % 4, both(day(day), x -> x.buyLicence()), x -> x.buyLicence());
        }
        Step first = x -> x.buyLicence();
        eq("after the season", made(both(first, day(30))).buyLicence(), 50);
    }

    @Sentence(under = "Terms", says = "Denial 9: a command of a text failed; the detail is the index of the command, from 0.")
    static void denial9TellsTheIndex() {
        String command = "wait 1;";
        for (int index = 0; index <= 8; index++) {
            fails(command.repeat(index) + "land", index, 7, NOTHING);
        }
        fails("wait 1;land;land", 1, 7, NOTHING);
        fails("land;wait 0", 0, 7, NOTHING);
    }

    @Sentence(under = "Terms",
        says = "Only denial 9 has a cause: the denial of the failed command with its detail, or denial 10 with detail 0 if the command failed with an exception other than UnsupportedOperationException.")
    static void onlyDenial9HasACause() {
        fails("note 0 1", 0, 1, notes(10));
        fails("net 0+1 1", 0, 1, nets(5));
        fails("haul 0", 0, 2, nets(1));
        fails("haul 0", 0, 3, both(nets(1), x -> x.buyLicence()));
        fails("free 0", 0, 4, notes(1));
        fails("cite 0>1", 0, 5, both(notes(2), x -> x.cite(0, 1)));
        fails("drop 0>1", 0, 5, notes(2));
        fails("land", 0, 7, NOTHING);
        fails("licence", 0, 8, x -> x.buyLicence());
        // All twelve commands but "land" and "licence" can meet another exception.
        for (String text : new String[] {"note 12 1", "note 0 0", "note 0 31", "cite 0>0", "cite 2>0", "cite 0>2", "drop 1>1", "drop 9>0",
            "current 12=0", "current 0=2", "current 0=-2", "net 12+1 1", "net 0+0 1", "net 0+13 1", "net 0+1 0", "net 0+1 31",
            "cut 1", "cut 9", "haul 1", "haul 9", "quota 12=0", "quota 99=0", "free 2", "free 9", "wait 0", "wait 41", "wait 99"}) {
            fails(text, 0, 10, both(notes(2), nets(1)));
        }
        fails("note 12 1", 0, 10, notes(10));
        fails("haul 5", 0, 10, nets(5));
    }

    @Sentence(under = "Terms", says = "The number, the detail and the cause of the latest denial are kept until the next denial.")
    static void denialsAreKept() {
        Check.thrown("the first denial", DENIED, () -> run(f, "wait 1;land"));
        Check.same("kept at once", Look.DENIAL.at(f), "9 1 7");
        notes(2).on(f);
        run(f, "wait 1");
        Check.answer(() -> f.addNote(12, 1));
        Check.answer(() -> f.cite(0, 9));
        Check.answer(() -> f.removeNet(0));
        Check.answer(() -> f.execute());
        f.undo();
        f.saveSnapshot();
        f.restoreSnapshot();
        Check.same("kept over changes and other exceptions", Look.DENIAL.at(f), "9 1 7");
        Check.thrown("the next denial", DENIED, () -> f.uncite(0, 1));
        Check.same("the next one has no cause", Look.DENIAL.at(f), "5 0 throws.NoSuchElementException");
        Check.thrown("once more", DENIED, () -> run(f, "cut 0"));
        Check.same("the latest", Look.DENIAL.at(f), "9 0 10");
    }

    // ---- texts

    @Sentence(under = "Terms", says = "The text buffer holds at most 60 characters.")
    static void bufferHolds60() {
        for (int length = 1; length <= 60; length++) {
            eq("length", f.feed(' '), length);
        }
        Check.thrown("the 61st", STATE, () -> f.feed(' '));
        f = new FootnoteFishery();
        String full = "wait 10;wait 10;wait 10;wait 10;wait 10;wait 1;wait 1;wait 2";
        eq("characters", full.length(), 60);
        feed(f, full);
        Check.thrown("the 61st", STATE, () -> f.feed('0'));
        eq("the 60th is executed, the 61st not", f.execute(), 8);
        eq("the 60th is executed, the 61st not", f.day(), 54);
    }

    @Sentence(under = "Terms", says = "a space in a terminal is exactly one space")
    static void spacesAreExactlyOne() {
        for (String sample : SAMPLES) {
            int space = sample.indexOf(' ');
            if (space >= 0) {
                String name = sample.substring(0, space);
                String rest = sample.substring(space + 1);
                faults(name + "  " + rest, space + 1, NOTHING);
                faults(name + rest, space, NOTHING);
                faults(name + "\t" + rest, space, NOTHING);
            }
            faults(" " + sample, 0, NOTHING);
            faults(sample + " ", sample.length(), NOTHING);
        }
        faults("note 1  2", 7, NOTHING);
        faults("net 1+2  3", 8, NOTHING);
        faults("net 1 +2 3", 5, NOTHING);
        faults("wait 1 ;wait 1", 6, NOTHING);
        faults("wait 1; wait 1", 7, NOTHING);
    }

    @Sentence(under = "Terms", says = "text: command { \";\" command }")
    static void textsHaveOneCommandAtLeast() {
        faults("", 0, NOTHING);
        faults(";", 0, NOTHING);
        faults("wait 1;", 7, NOTHING);
        faults(";wait 1", 0, NOTHING);
        faults("wait 1;;wait 1", 7, NOTHING);
        faults("wait 1wait 1", 6, NOTHING);
        faults("landland", 4, NOTHING);
        faults("wait 1,wait 1", 6, NOTHING);
        eq("one command", run(f, "wait 1"), 1);
        eq("eight commands", run(f, "wait 1;wait 1;wait 1;wait 1;wait 1;wait 1;wait 1;wait 1"), 8);
        Check.thrown("twelve commands match", DENIED, () -> run(f, "land;land;land;land;land;land;land;land;land;land;land;land"));
    }

    @Sentence(under = "Terms", says = "number: one or two digits")
    static void numbersHaveOneOrTwoDigits() {
        numberHasTwoDigits("wait ", "", 5);
        numberHasTwoDigits("note ", " 5", 5);
        numberHasTwoDigits("note 5 ", "", 7);
        numberHasTwoDigits("current ", "=0", 8);
        numberHasTwoDigits("net ", "+5 5", 4);
        numberHasTwoDigits("net 5+", " 5", 6);
        numberHasTwoDigits("net 5+5 ", "", 8);
        numberHasTwoDigits("quota ", "=5", 6);
        numberHasTwoDigits("quota 5=", "", 8);
        eq("two digits", run(f, "wait 39"), 1);
        eq("a zero ahead", run(f, "wait 01"), 1);
        eq("day", f.day(), 40);
        fails("wait 00", 0, 10, NOTHING);
        fails("wait 99", 0, 10, NOTHING);
    }

    private static void numberHasTwoDigits(String ahead, String behind, int at) {
        faults(ahead + behind, at, NOTHING);
        faults(ahead + "111" + behind, at + 2, NOTHING);
        faults(ahead + "-1" + behind, at, NOTHING);
        faults(ahead + "+1" + behind, at, NOTHING);
        faults(ahead + (char) ('0' - 1) + behind, at, NOTHING);
        faults(ahead + (char) ('9' + 1) + behind, at, NOTHING);
        faults(ahead + '\u0661' + behind, at, NOTHING);
        for (String number : new String[] {"1", "9", "01", "10", "11"}) {
            FootnoteFishery x = new FootnoteFishery();
            eq(ahead + number + behind, run(x, ahead + number + behind), 1);
        }
        for (String number : new String[] {"0", "00", "99"}) {
            FootnoteFishery x = new FootnoteFishery();
            String answer = Check.answer(() -> run(x, ahead + number + behind));
            Check.that(ahead + number + behind + " is a text", !answer.equals("throws.IllegalArgumentException"));
        }
    }

    @Sentence(under = "Terms", says = "\"cite \" digit \">\" digit | \"drop \" digit \">\" digit")
    static void digitsOfCitationsAreOne() {
        for (String name : new String[] {"cite ", "drop "}) {
            digitIsOne(name, ">5");
            digitIsOne(name + "5>", "");
            faults(name + "5", 6, NOTHING);
            faults(name + "5>", 7, NOTHING);
            faults(name + "5-5", 6, NOTHING);
        }
    }

    @Sentence(under = "Terms", says = "\"cut \" digit | \"haul \" digit")
    static void digitsOfNetsAreOne() {
        digitIsOne("cut ", "");
        digitIsOne("haul ", "");
    }

    @Sentence(under = "Terms", says = "\"land\" | \"free \" digit | \"licence\"")
    static void digitOfFreeIsOne() {
        digitIsOne("free ", "");
        faults("land 1", 4, NOTHING);
        faults("land1", 4, NOTHING);
        faults("licence 1", 7, NOTHING);
        faults("licence1", 7, NOTHING);
        faults("licences", 7, NOTHING);
    }

    private static void digitIsOne(String ahead, String behind) {
        int at = ahead.length();
        faults(ahead + behind, at, NOTHING);
        faults(ahead + "11" + behind, at + 1, NOTHING);
        faults(ahead + "-1" + behind, at, NOTHING);
        faults(ahead + (char) ('0' - 1) + behind, at, NOTHING);
        faults(ahead + (char) ('9' + 1) + behind, at, NOTHING);
        faults(ahead + '\u0661' + behind, at, NOTHING);
        for (char digit = '0'; digit <= '9'; digit++) {
            // Without notes and nets each such command fails, but it matches.
            fails(ahead + digit + behind, 0, 10, NOTHING);
        }
    }

    @Sentence(under = "Terms", says = "\"current \" number \"=\" [ \"-\" ] digit")
    static void currentsHaveOneSignAtMost() {
        String[] texts = {"current 5=1", "current 5=-1", "current 5=0", "current 5=-0"};
        int[] currents = {1, -1, 0, 0};
        for (int i = 0; i < texts.length; i++) {
            run(f, texts[i]);
            eq(texts[i], f.current(5), currents[i]);
        }
        faults("current 5=--1", 11, NOTHING);
        faults("current 5=-", 11, NOTHING);
        faults("current 5=", 10, NOTHING);
        faults("current 5=+1", 10, NOTHING);
        faults("current 5=11", 11, NOTHING);
        faults("current 5=-11", 12, NOTHING);
        faults("current 5=1-", 11, NOTHING);
        faults("current 5=-/", 11, NOTHING);
        faults("current 5=-:", 11, NOTHING);
        faults("current -5=1", 8, NOTHING);
        fails("current 5=2", 0, 10, NOTHING);
        fails("current 5=-2", 0, 10, NOTHING);
        fails("current 5=9", 0, 10, NOTHING);
        fails("current 5=-9", 0, 10, NOTHING);
    }

    @Sentence(under = "Terms", says = "The commands correspond to the methods addNote, cite, uncite (for \"drop\"), setCurrent, addNet, removeNet (for \"cut\"), haul, setQuota, land, free, buyLicence and pass, with the parameters in the same order.")
    static void commandsAreMethods() {
        Step start = x -> {
            passTo(x, 30);
            notes(4).on(x);
            nets(3).on(x);
            x.cite(0, 3);
        };
        sameAs("note 11 2", start, x -> x.addNote(11, 2));
        sameAs("note 2 11", start, x -> x.addNote(2, 11));
        sameAs("cite 1>2", start, x -> x.cite(1, 2));
        sameAs("cite 2>1", start, x -> x.cite(2, 1));
        sameAs("drop 0>3", start, x -> x.uncite(0, 3));
        sameAs("current 11=-1", start, x -> x.setCurrent(11, -1));
        sameAs("current 1=1", start, x -> x.setCurrent(1, 1));
        sameAs("net 2+12 13", start, x -> x.addNet(2, 12, 13));
        sameAs("net 11+3 2", start, x -> x.addNet(11, 3, 2));
        sameAs("cut 1", start, x -> x.removeNet(1));
        sameAs("quota 11=99", start, x -> x.setQuota(11, 99));
        sameAs("quota 2=11", start, x -> x.setQuota(2, 11));
        sameAs("licence", start, x -> x.buyLicence());
        sameAs("wait 40", both(start, x -> x.setCurrent(1, 1)), x -> x.pass(40));
        Step licensed = both(start, x -> x.buyLicence());
        sameAs("haul 1", licensed, x -> x.haul(1));
        Step hold = both(licensed, x -> x.haul(1));
        sameAs("free 3", hold, x -> x.free(3));
        sameAs("land", hold, x -> x.land());
    }

    /** The text has the same effect as the call, each as one change. */
    private static void sameAs(String text, Step steps, Ask call) {
        FootnoteFishery byText = made(steps);
        FootnoteFishery byCall = made(steps);
        String before = Look.STATE.at(made(steps));
        eq(text, run(byText, text), 1);
        call.of(byCall);
        String after = Look.STATE.at(byText);
        Check.same(text, after, Look.STATE.at(byCall));
        Check.that(text + " changes something", !after.equals(before));
    }

    @Sentence(under = "Terms", says = "The fault position of a text is the index of the first character that cannot continue any such text")
    static void foreignCharactersAreFaults() {
        for (String sample : SAMPLES) {
            for (int i = 0; i < sample.length(); i++) {
                char own = sample.charAt(i);
                for (char foreign : new char[] {'#', 0, '\uffff', (char) (own + 256), (char) (own ^ 128)}) {
                    foreignAt(sample, i, foreign);
                }
                if (Character.isLetter(own)) {
                    foreignAt(sample, i, Character.toUpperCase(own));
                    foreignAt(sample, i, ' ');
                    foreignAt(sample, i, ';');
                }
            }
            faults(sample + '#', sample.length(), NOTHING);
            faults("land;" + sample + '#', 5 + sample.length(), NOTHING);
        }
    }

    private static void foreignAt(String sample, int at, char foreign) {
        String wrong = sample.substring(0, at) + foreign + sample.substring(at + 1);
        faultAt(wrong, at);
        faultAt("land;wait 1;" + wrong, 12 + at);
    }

    /** As faults, but without a look at all that stays. */
    private static void faultAt(String text, int position) {
        FootnoteFishery x = new FootnoteFishery();
        Check.thrown("'" + text + "'", BAD, () -> run(x, text));
        eq("fault of '" + text + "'", x.faultPosition(), position);
    }

    @Sentence(under = "Terms", says = "the first character that cannot continue any such text")
    static void commandsWithTheSameBeginning() {
        String[] texts = {"lx", "lax", "lix", "lanx", "licx", "cx", "cix", "cux", "cuxr", "cutt 1", "curx", "cutr", "nx", "nox", "nex", "neet",
            "fx", "dx", "hx", "qx", "wx", "cur5", "cut r", "lai", "noe", "nett"};
        int[] faults = {1, 2, 2, 3, 3, 1, 2, 2, 2, 3, 3, 3, 1, 2, 2, 2, 1, 1, 1, 1, 1, 3, 4, 2, 2, 3};
        for (int i = 0; i < texts.length; i++) {
            faultAt(texts[i], faults[i]);
            faultAt("land;" + texts[i], 5 + faults[i]);
        }
        for (char sign = 0; sign < 300; sign++) {
            faultAt(String.valueOf(sign), "ncdhqlfw".indexOf(sign) < 0 ? 0 : 1);
        }
    }

    @Sentence(under = "Terms", says = "or the length of the text if it ends too early")
    static void shortTextsAreFaults() {
        faultAt("", 0);
        for (String sample : SAMPLES) {
            for (int length = 0; length < sample.length(); length++) {
                faultAt(sample.substring(0, length), length);
                faultAt("land;" + sample.substring(0, length), 5 + length);
            }
        }
        faultAt("land;land;land;land;land;land;land;land;land;land;land;land;", 60);
        faultAt("land;land;land;land;land;land;land;land;land;land;land;wait ", 60);
    }

    // ---- undo

    /** Notes and nets in the season 1, with a licence, of which the note 0 is held. */
    private static void workingDay(FootnoteFishery x) {
        passTo(x, 35);
        x.addNote(0, 30);
        x.addNote(1, 10);
        x.addNote(2, 10);
        x.addNet(0, 1, 1);
        x.addNet(1, 2, 10);
        x.buyLicence();
        x.haul(0);
        x.setCurrent(1, 1);
        x.setQuota(0, 30);
        x.cite(0, 1);
    }

    private static void isChange(String what, Ask change) {
        FootnoteFishery x = made(ReasonsBoundsTest::fewChanges);
        String before = Look.STATE.at(made(ReasonsBoundsTest::fewChanges));
        String answer = Check.answer(() -> change.of(x));
        Check.that(what + " answered " + answer, !answer.startsWith("throws."));
        eq(what + " is one change", x.undoCount(), 2);
        eq(what + " is undone", x.undo(), 1);
        Check.same(what + " is undone whole", Look.STATE.at(x), before);
        FootnoteFishery full = made(both(ReasonsBoundsTest::workingDay, y -> y.setQuota(5, 5)));
        change.of(full);
        eq(what + " is one of eight changes", full.undoCount(), 8);
    }

    /** The same day with one change that can be undone. */
    private static void fewChanges(FootnoteFishery x) {
        workingDay(x);
        x.saveSnapshot();
        x.restoreSnapshot();
        x.setQuota(5, 5);
    }

    @Sentence(under = "Terms",
        says = "The calls of the methods to which commands correspond, and of execute, that do not throw an exception are the changes.")
    static void thirteenMethodsMakeChanges() {
        isChange("addNote", x -> x.addNote(11, 1));
        isChange("cite", x -> x.cite(1, 2));
        isChange("uncite", x -> x.uncite(0, 1));
        isChange("setCurrent", x -> x.setCurrent(11, -1));
        isChange("setCurrent to the same", x -> x.setCurrent(1, 1));
        isChange("addNet", x -> x.addNet(11, 12, 30));
        isChange("removeNet", x -> x.removeNet(0));
        isChange("haul", x -> x.haul(1));
        isChange("haul without a catch", x -> x.haul(0));
        isChange("setQuota", x -> x.setQuota(11, 99));
        isChange("setQuota to the same", x -> x.setQuota(5, 5));
        isChange("land", x -> x.land());
        isChange("free", x -> x.free(0));
        isChange("pass", x -> x.pass(40));
        isChange("execute", x -> run(x, "wait 1"));
        isChange("execute of many commands", x -> run(x, "haul 1;land;cut 0;note 1 1;wait 40;licence;drop 0>1"));
        FootnoteFishery x = made(both(ReasonsBoundsTest::workingDay, day(60)));
        x.saveSnapshot();
        x.restoreSnapshot();
        int coins = x.coins();
        x.buyLicence();
        eq("buyLicence is one change", x.undoCount(), 1);
        x.undo();
        eq("buyLicence is undone", x.coins(), coins);
        Check.that("buyLicence is undone", !x.hasLicence());
    }

    @Sentence(under = "Terms", says = "that do not throw an exception are the changes")
    static void everyRemovalOfANetIsUndoneWhole() {
        Step five = x -> {
            for (int net = 0; net < 5; net++) {
                x.addNet(net, 11 - net, 10 + net);
                x.addNote(10, 10 + net);
            }
        };
        for (int net = 0; net < 5; net++) {
            FootnoteFishery x = made(five);
            x.removeNet(net);
            Check.that("another state", !Look.STATE.at(x).equals(Look.STATE.at(made(five))));
            x.undo();
            Check.same("first pages, spans and meshes", Look.STATE.at(x), Look.STATE.at(made(both(five, ReasonsBoundsTest::undone))));
        }
    }

    /** Makes a change that is undone, so that as many changes are forgotten. */
    private static void undone(FootnoteFishery x) {
        x.setQuota(0, 1);
        x.undo();
    }

    @Sentence(under = "Terms", says = "that do not throw an exception are the changes")
    static void throwingCallsAreNoChanges() {
        notChange("addNote", x -> x.addNote(12, 1));
        notChange("cite", x -> x.cite(0, 1));
        notChange("uncite", x -> x.uncite(1, 0));
        notChange("setCurrent", x -> x.setCurrent(0, 2));
        notChange("addNet", x -> x.addNet(0, 13, 1));
        notChange("removeNet", x -> x.removeNet(2));
        notChange("haul", x -> x.haul(2));
        notChange("setQuota", x -> x.setQuota(0, 100));
        notChange("free", x -> x.free(1));
        notChange("buyLicence", x -> x.buyLicence());
        notChange("pass", x -> x.pass(41));
        notChange("execute of a failing text", x -> run(x, "wait 1;cut 9"));
        notChange("execute of no text", x -> x.execute());
        FootnoteFishery x = made(notes(2));
        Check.thrown("land", DENIED, () -> x.land());
        eq("land is no change", x.undoCount(), 2);
    }

    private static void notChange(String what, Ask call) {
        FootnoteFishery x = made(ReasonsBoundsTest::fewChanges);
        String answer = Check.answer(() -> call.of(x));
        Check.that(what + " answered " + answer, answer.startsWith("throws."));
        eq(what + " is no change", x.undoCount(), 1);
        x.undo();
        eq("the change before is undone", x.quota(5), 20);
    }

    @Sentence(under = "Terms", says = "The latest 8 changes can be undone; older ones are forgotten.")
    static void eightChangesCanBeUndone() {
        for (int count = 0; count <= 20; count++) {
            f = new FootnoteFishery();
            for (int i = 1; i <= count; i++) {
                f.setQuota(0, i);
            }
            int known = Math.min(count, 8);
            eq("changes of " + count, f.undoCount(), known);
            for (int i = 1; i <= known; i++) {
                eq("left of " + count, f.undo(), known - i);
                eq("quota", f.quota(0), i == count ? 20 : count - i);
            }
            Check.thrown("an older one of " + count, STATE, () -> f.undo());
            eq("the oldest that is known", f.quota(0), count <= 8 ? 20 : count - 8);
        }
    }

    @Sentence(under = "Terms", says = "The latest 8 changes can be undone")
    static void undoneChangesGiveWayToNewOnes() {
        for (int undone = 0; undone <= 8; undone++) {
            f = new FootnoteFishery();
            for (int i = 1; i <= 11; i++) {
                f.setQuota(0, i);
            }
            for (int i = 0; i < undone; i++) {
                f.undo();
            }
            for (int i = 1; i <= 3; i++) {
                f.setQuota(0, 50 + i);
            }
            int known = Math.min(8, 8 - undone + 3);
            eq("changes after " + undone, f.undoCount(), known);
            for (int i = 1; i <= known; i++) {
                f.undo();
                eq("quota " + i + " after " + undone, f.quota(0), i < 3 ? 53 - i : 11 - undone - (i - 3));
            }
            Check.thrown("no more", STATE, () -> f.undo());
        }
    }

    @Sentence(under = "Terms",
        says = "The text buffer, the fault position, the output line and the latest denial are affected neither by undo nor by snapshots.")
    static void undoAndSnapshotsLeaveTheRest() {
        Step full = x -> {
            notes(2).on(x);
            x.saveSnapshot();
            x.cite(0, 1);
            x.writeNote(0);
            Check.answer(() -> x.land());
            Check.answer(() -> run(x, "wait x"));
            feed(x, "note 0 9");
        };
        String[] names = {"undo", "saveSnapshot", "restoreSnapshot"};
        Ask[] calls = {x -> x.undo(), x -> x.saveSnapshot(), x -> x.restoreSnapshot()};
        for (int i = 0; i < calls.length; i++) {
            for (Look look : new Look[] {Look.LINE, Look.FAULT, Look.DENIAL}) {
                FootnoteFishery x = made(full);
                calls[i].of(x);
                Check.same(names[i] + " leaves " + look, look.at(x), look.at(made(full)));
            }
            FootnoteFishery x = made(full);
            calls[i].of(x);
            eq(names[i] + " leaves the buffer", x.execute(), 1);
            eq(names[i] + " leaves the buffer", x.noteCount(), 3);
        }
        // The snapshot is older than the text, the fault, the line and the denial.
        FootnoteFishery x = made(y -> y.saveSnapshot());
        full.on(x);
        Check.same("the line of a note that is gone", goneNotes(x), "0 0p0w10f>1 throws.IndexOutOfBoundsException 5 7 2");
    }

    private static String goneNotes(FootnoteFishery x) {
        for (int left = x.undoCount(); left > 0; left--) {
            x.undo();
        }
        StringBuilder line = new StringBuilder();
        for (int i = 0; i < 9; i++) {
            line.append(x.lineCharacter(i));
        }
        return x.noteCount() + " " + line + " " + Check.answer(() -> x.lineCharacter(9)) + " " + x.faultPosition() + " " + x.denial()
            + " " + x.denialDetail();
    }

    // ---- exceptions

    @Sentence(under = "Terms", says = "A method that throws an exception does not change the state, unless its documentation says otherwise.")
    static void throwingCallsChangeNothing() {
        Step day = ReasonsBoundsTest::workingDay;
        refuses("addNote", BAD, day, x -> x.addNote(12, 1));
        refuses("cite", NONE, day, x -> x.cite(0, 3));
        refuses("cite", BAD, day, x -> x.cite(0, 0));
        denies("cite", 5, 1, day, x -> x.cite(0, 1));
        refuses("uncite", NONE, day, x -> x.uncite(3, 0));
        refuses("uncite", BAD, day, x -> x.uncite(2, 2));
        denies("uncite", 5, 0, day, x -> x.uncite(1, 0));
        refuses("setCurrent", BAD, day, x -> x.setCurrent(1, 2));
        refuses("setQuota", BAD, day, x -> x.setQuota(1, 100));
        refuses("addNet", BAD, day, x -> x.addNet(1, 1, 31));
        refuses("removeNet", OUT, day, x -> x.removeNet(2));
        refuses("haul", OUT, day, x -> x.haul(2));
        denies("haul", 2, 2, both(day, day(60)), x -> x.haul(0));
        denies("haul", 3, 1, both(day, both(day(120), x -> x.buyLicence())), x -> x.haul(0));
        refuses("free", NONE, day, x -> x.free(3));
        denies("free", 4, 1, day, x -> x.free(1));
        denies("land", 7, 2, both(day, x -> x.land()), x -> x.land());
        denies("buyLicence", 8, 1, day, x -> x.buyLicence());
        refuses("pass", BAD, day, x -> x.pass(41));
        faults("wait 1;haul 0;land;x", 19, day);
        fails("haul 1;land;cut 0;wait 30;licence;cut 1", 5, 10, day);
        refuses("a question about a note", NONE, day, x -> x.wouldLand(3));
        refuses("a question about a net", OUT, day, x -> x.catchSize(2));
        refuses("a question about a page", BAD, day, x -> x.room(12));
    }

    @Sentence(under = "Terms", says = "If the conditions of several exceptions hold, the one that is documented first is thrown.")
    static void theFirstDocumentedExceptionIsThrown() {
        refuses("addNote: range and limit", BAD, notes(10), x -> x.addNote(-1, 0));
        refuses("addNet: range and limit", BAD, nets(5), x -> x.addNet(-1, 0, 0));
        refuses("cite: no such note and the same", NONE, notes(2), x -> x.cite(2, 2));
        refuses("uncite: no such note and the same", NONE, notes(2), x -> x.uncite(2, 2));
        refuses("uncite: the same, which is not cited", BAD, notes(2), x -> x.uncite(1, 1));
        refuses("covers: no such net and no such page", OUT, nets(2), x -> x.covers(2, 12));
        refuses("haul: no such net and no licence", OUT, nets(2), x -> x.haul(2));
        refuses("free: no such note, and the hold is empty", NONE, notes(2), x -> x.free(2));
        faults("land;cut 0;", 11, NOTHING);
    }
}
