/** The boundaries that the promises 1 to 17 name: a new object, notes and citations. */
public final class NotesBoundsTest extends Bounds {
    private NotesBoundsTest() {
    }

    public static void main(String[] args) {
        runAll(NotesBoundsTest.class);
    }

    @Sentence(under = "Promise 1: A new object", says = "Creates a fishery without notes, nets and licence, on day 0.")
    static void newObjectIsEmpty() {
        eq("notes", f.noteCount(), 0);
        eq("nets", f.netCount(), 0);
        Check.that("no licence", !f.hasLicence());
        eq("day", f.day(), 0);
        refusesBare("pageOf(0)", NONE, NOTHING, x -> x.pageOf(0));
        refusesBare("covers(0, 0)", OUT, NOTHING, x -> x.covers(0, 0));
    }

    // ---- promise 2

    @Sentence(under = "Promise 2: addNote", says = "- `page`: the page, 0 to 11")
    static void addNoteTakesPages0To11() {
        eq("the first page", f.addNote(0, 10), 0);
        eq("the last page", f.addNote(11, 10), 1);
        eq("page of 0", f.pageOf(0), 0);
        eq("page of 1", f.pageOf(1), 11);
        needsRange("addNote, page", 0, 11, notes(1), (x, page) -> x.addNote(page, 10));
    }

    @Sentence(under = "Promise 2: addNote", says = "- `weight`: the weight, 1 to 30")
    static void addNoteTakesWeights1To30() {
        eq("the least weight", f.addNote(5, 1), 0);
        eq("the greatest weight", f.addNote(5, 30), 1);
        eq("weight of 0", f.weightOf(0), 1);
        eq("weight of 1", f.weightOf(1), 30);
        needsRange("addNote, weight", 1, 30, notes(1), (x, weight) -> x.addNote(5, weight));
    }

    @Sentence(under = "Promise 2: addNote", says = "Returns the number of the note.")
    static void addNoteReturns0To9() {
        for (int note = 0; note < 10; note++) {
            eq("number", f.addNote(0, 1), note);
        }
    }

    @Sentence(under = "Promise 2: addNote", says = "Throws `IllegalArgumentException` if the page or the weight is out of range")
    static void addNoteRefusesRangesAheadOfTheLimit() {
        refuses("both are out of range", BAD, notes(0), x -> x.addNote(12, 31));
        refuses("the page of an eleventh note", BAD, notes(10), x -> x.addNote(12, 30));
        refuses("the page of an eleventh note", BAD, notes(10), x -> x.addNote(-1, 30));
        refuses("the weight of an eleventh note", BAD, notes(10), x -> x.addNote(11, 31));
        refuses("the weight of an eleventh note", BAD, notes(10), x -> x.addNote(11, 0));
    }

    @Sentence(under = "Promise 2: addNote", says = "Throws `UnsupportedOperationException` if denied: 1 (10 notes)")
    static void addNoteDeniesTheEleventh() {
        notes(9).on(f);
        eq("the tenth note", f.addNote(0, 1), 9);
        denies("the eleventh note", 1, 10, notes(10), x -> x.addNote(0, 1));
        f.undo();
        eq("the tenth note again", f.addNote(0, 1), 9);
    }

    // ---- promise 3

    @Sentence(under = "Promise 3: cite", says = "Returns the number of notes that it cites afterwards.")
    static void citeReturns1To9() {
        notes(10).on(f);
        for (int other = 1; other < 10; other++) {
            eq("cites of the first note", f.cite(0, other), other);
            eq("cites of the last note", f.cite(9, other - 1), other);
        }
    }

    @Sentence(under = "Promise 3: cite", says = "Throws `NoSuchElementException` if there is no such note, for either")
    static void citeNeedsBothNotes() {
        needsNote("cite, note", (x, note) -> x.cite(note, 0));
        needsNote("cite, other", (x, other) -> x.cite(0, other));
        refuses("neither exists, and both are the same", NONE, notes(3), x -> x.cite(3, 3));
        refuses("neither exists, and both are the same", NONE, notes(3), x -> x.cite(-1, -1));
    }

    @Sentence(under = "Promise 3: cite", says = "Throws `IllegalArgumentException` if both are the same")
    static void citeRefusesTheSame() {
        refuses("the first", BAD, notes(10), x -> x.cite(0, 0));
        refuses("the last", BAD, notes(10), x -> x.cite(9, 9));
        refuses("the only one", BAD, notes(1), x -> x.cite(0, 0));
    }

    @Sentence(under = "Promise 3: cite", says = "Throws `UnsupportedOperationException` if denied: 5 (it cites the other one)")
    static void citeDeniesTheSecondTime() {
        denies("a note that cites one", 5, 1, both(notes(2), x -> x.cite(0, 1)), x -> x.cite(0, 1));
        denies("a note that cites all others", 5, 9, both(notes(10), x -> citeAllOthers(x, 9)), x -> x.cite(9, 0));
        notes(2).on(f);
        f.cite(0, 1);
        eq("the other way round", f.cite(1, 0), 1);
    }

    private static void citeAllOthers(FootnoteFishery x, int note) {
        for (int other = 0; other < x.noteCount(); other++) {
            if (other != note) {
                x.cite(note, other);
            }
        }
    }

    private static void allCiteAll(FootnoteFishery x) {
        for (int note = 0; note < x.noteCount(); note++) {
            citeAllOthers(x, note);
        }
    }

    // ---- promise 4

    @Sentence(under = "Promise 4: uncite", says = "Returns the number of notes that it cites afterwards.")
    static void unciteReturns8To0() {
        notes(10).on(f);
        citeAllOthers(f, 0);
        for (int other = 1; other < 10; other++) {
            eq("cites", f.uncite(0, other), 9 - other);
        }
    }

    @Sentence(under = "Promise 4: uncite", says = "Throws `NoSuchElementException` if there is no such note, for either")
    static void unciteNeedsBothNotes() {
        needsNote("uncite, note", (x, note) -> x.uncite(note, 0));
        needsNote("uncite, other", (x, other) -> x.uncite(0, other));
        refuses("neither exists, and both are the same", NONE, notes(3), x -> x.uncite(3, 3));
        refuses("neither exists, and both are the same", NONE, notes(3), x -> x.uncite(-1, -1));
    }

    @Sentence(under = "Promise 4: uncite", says = "Throws `IllegalArgumentException` if both are the same")
    static void unciteRefusesTheSame() {
        refuses("the first", BAD, notes(10), x -> x.uncite(0, 0));
        refuses("the last", BAD, notes(10), x -> x.uncite(9, 9));
        refuses("the only one", BAD, notes(1), x -> x.uncite(0, 0));
    }

    @Sentence(under = "Promise 4: uncite", says = "Throws `UnsupportedOperationException` if denied: 5 (it does not cite the other one)")
    static void unciteDeniesWhatIsNotCited() {
        denies("a note that cites none", 5, 0, notes(2), x -> x.uncite(0, 1));
        denies("a note that is cited only", 5, 0, both(notes(2), x -> x.cite(0, 1)), x -> x.uncite(1, 0));
        denies("a note that cites all but one", 5, 8, both(notes(10), x -> {
            citeAllOthers(x, 0);
            x.uncite(0, 9);
        }), x -> x.uncite(0, 9));
    }

    // ---- promises 5 to 8

    @Sentence(under = "Promise 5: noteCount", says = "Returns the number of notes.")
    static void noteCountIs0To10() {
        eq("no notes", f.noteCount(), 0);
        for (int count = 1; count <= 10; count++) {
            f.addNote(0, 1);
            eq("notes", f.noteCount(), count);
        }
        Check.thrown("the eleventh note", DENIED, () -> f.addNote(0, 1));
        eq("still full", f.noteCount(), 10);
    }

    @Sentence(under = "Promise 6: pageOf", says = "Returns the page.")
    static void pageOfIs0To11() {
        f.addNote(0, 1);
        f.addNote(11, 1);
        eq("the first page", f.pageOf(0), 0);
        eq("the last page", f.pageOf(1), 11);
        f.setCurrent(0, -1);
        f.setCurrent(11, 1);
        f.pass(1);
        eq("before the first page", f.pageOf(0), 11);
        eq("after the last page", f.pageOf(1), 0);
    }

    @Sentence(under = "Promise 6: pageOf", says = "Throws `NoSuchElementException` if there is no such note")
    static void pageOfNeedsNote() {
        needsNote("pageOf", (x, note) -> x.pageOf(note));
    }

    @Sentence(under = "Promise 7: weightOf", says = "Returns the weight.")
    static void weightOfIs1To30() {
        f.addNote(0, 1);
        f.addNote(0, 30);
        eq("the least", f.weightOf(0), 1);
        eq("the greatest", f.weightOf(1), 30);
    }

    @Sentence(under = "Promise 7: weightOf", says = "Throws `NoSuchElementException` if there is no such note")
    static void weightOfNeedsNote() {
        needsNote("weightOf", (x, note) -> x.weightOf(note));
    }

    @Sentence(under = "Promise 8: stateOf", says = "Returns 'f' if it is floating, 'h' if it is held, 'l' if it is landed.")
    static void stateOfTellsEachState() {
        floating(5, 5, 6).on(f);
        Check.same("added", states(f), "ff");
        f.haul(0);
        Check.same("caught", states(f), "hh");
        f.land();
        Check.same("landed and returned", states(f), "lf");
    }

    @Sentence(under = "Promise 8: stateOf", says = "Throws `NoSuchElementException` if there is no such note")
    static void stateOfNeedsNote() {
        needsNote("stateOf", (x, note) -> x.stateOf(note));
    }

    // ---- promises 9 to 11

    @Sentence(under = "Promise 9: citedBy", says = "Returns the number of notes that cite a note.")
    static void citedByIs0To9() {
        notes(10).on(f);
        eq("cited by none", f.citedBy(9), 0);
        for (int note = 0; note < 9; note++) {
            f.cite(note, 9);
            eq("cited", f.citedBy(9), note + 1);
        }
        eq("one that cites", f.citedBy(0), 0);
    }

    @Sentence(under = "Promise 9: citedBy", says = "Throws `NoSuchElementException` if there is no such note")
    static void citedByNeedsNote() {
        needsNote("citedBy", (x, note) -> x.citedBy(note));
    }

    @Sentence(under = "Promise 10: doesCite", says = "- `other`: the number of a note, possibly the same")
    static void doesCiteTakesTheSame() {
        notes(10).on(f);
        Check.that("the first", !f.doesCite(0, 0));
        allCiteAll(f);
        for (int note = 0; note < 10; note++) {
            Check.that("itself", !f.doesCite(note, note));
            Check.that("another", f.doesCite(note, (note + 1) % 10) && f.doesCite(note, (note + 9) % 10));
        }
    }

    @Sentence(under = "Promise 10: doesCite", says = "Throws `NoSuchElementException` if there is no such note, for either")
    static void doesCiteNeedsBothNotes() {
        needsNote("doesCite, note", (x, note) -> x.doesCite(note, 0));
        needsNote("doesCite, other", (x, other) -> x.doesCite(0, other));
        needsNote("doesCite, both", (x, note) -> x.doesCite(note, note));
    }

    @Sentence(under = "Promise 11: reaches", says = "- `other`: the number of a note, possibly the same")
    static void reachesTakesTheSame() {
        notes(2).on(f);
        Check.that("without a citation", !f.reaches(0, 0) && !f.reaches(1, 1));
        f.cite(0, 1);
        Check.that("one citation", f.reaches(0, 1) && !f.reaches(0, 0) && !f.reaches(1, 1) && !f.reaches(1, 0));
        f.cite(1, 0);
        Check.that("two citations", f.reaches(0, 0) && f.reaches(1, 1));
    }

    @Sentence(under = "Promise 11: reaches", says = "Throws `NoSuchElementException` if there is no such note, for either")
    static void reachesNeedsBothNotes() {
        needsNote("reaches, note", (x, note) -> x.reaches(note, 0));
        needsNote("reaches, other", (x, other) -> x.reaches(0, other));
        needsNote("reaches, both", (x, note) -> x.reaches(note, note));
    }

    // ---- promises 12 to 14

    @Sentence(under = "Promise 12: circles", says = "Returns the number of circles, found by a search in depth that numbers the notes.")
    static void circlesIs0To5() {
        eq("without notes", f.circles(), 0);
        f.addNote(0, 1);
        eq("a single note", f.circles(), 0);
        f = made(NotesBoundsTest::fivePairs);
        eq("the most", f.circles(), 5);
        f.cite(1, 2);
        eq("a bridge joins none", f.circles(), 5);
        f.cite(3, 0);
        eq("a way back joins two", f.circles(), 4);
        f = made(both(notes(10), NotesBoundsTest::allCiteAll));
        eq("all cite all", f.circles(), 1);
        f = made(NotesBoundsTest::longRow);
        eq("the longest row", f.circles(), 0);
        f.cite(9, 0);
        eq("the longest ring", f.circles(), 1);
    }

    @Sentence(under = "Promise 13: circlesByTable",
        says = "Returns the same number as circles, found with a table of all pairs of notes that reach each other.")
    static void circlesByTableIs0To5() {
        eq("without notes", f.circlesByTable(), 0);
        f.addNote(0, 1);
        eq("a single note", f.circlesByTable(), 0);
        f = made(NotesBoundsTest::fivePairs);
        eq("the most", f.circlesByTable(), 5);
        f.cite(1, 2);
        eq("a bridge joins none", f.circlesByTable(), 5);
        f.cite(3, 0);
        eq("a way back joins two", f.circlesByTable(), 4);
        f = made(both(notes(10), NotesBoundsTest::allCiteAll));
        eq("all cite all", f.circlesByTable(), 1);
        f = made(NotesBoundsTest::longRow);
        eq("the longest row", f.circlesByTable(), 0);
        f.cite(9, 0);
        eq("the longest ring", f.circlesByTable(), 1);
    }

    /** Ten notes, of which 0 and 1, 2 and 3 and so on cite each other. */
    private static void fivePairs(FootnoteFishery x) {
        notes(10).on(x);
        for (int note = 0; note < 10; note += 2) {
            x.cite(note, note + 1);
            x.cite(note + 1, note);
        }
    }

    /** Ten notes, each of which but for the last cites the next. */
    private static void longRow(FootnoteFishery x) {
        notes(10).on(x);
        for (int note = 0; note < 9; note++) {
            x.cite(note, note + 1);
        }
    }

    @Sentence(under = "Promise 14: circleSize", says = "Returns the number of notes, 1 if it is in no circle.")
    static void circleSizeIs1To10() {
        longRow(f);
        eq("in no circle", f.circleSize(0), 1);
        eq("in no circle", f.circleSize(9), 1);
        f.cite(1, 0);
        eq("the smallest circle", f.circleSize(0), 2);
        eq("the smallest circle", f.circleSize(1), 2);
        eq("beside it", f.circleSize(2), 1);
        f.cite(9, 0);
        eq("the greatest circle", f.circleSize(0), 10);
        eq("the greatest circle", f.circleSize(9), 10);
    }

    @Sentence(under = "Promise 14: circleSize", says = "Throws `NoSuchElementException` if there is no such note")
    static void circleSizeNeedsNote() {
        needsNote("circleSize", (x, note) -> x.circleSize(note));
    }

    // ---- promises 15 to 17

    @Sentence(under = "Promise 15: index", says = "Returns the index of all notes, found by going through the notes in the order of their citations.")
    static void indexIs0To9() {
        eq("without notes", f.index(), 0);
        notes(10).on(f);
        eq("without citations", f.index(), 0);
        f.cite(0, 9);
        eq("one citation", f.index(), 1);
        f = made(both(notes(10), NotesBoundsTest::allCiteAll));
        eq("the greatest", f.index(), 9);
        f.uncite(0, 1);
        eq("nine notes are cited nine times still", f.index(), 9);
        f.uncite(1, 0);
        eq("only eight are", f.index(), 8);
    }

    @Sentence(under = "Promise 16: indexByCounts",
        says = "Returns the same number as index, found by counting the notes for each number of citations.")
    static void indexByCountsIs0To9() {
        eq("without notes", f.indexByCounts(), 0);
        notes(10).on(f);
        eq("without citations", f.indexByCounts(), 0);
        f.cite(0, 9);
        eq("one citation", f.indexByCounts(), 1);
        f = made(both(notes(10), NotesBoundsTest::allCiteAll));
        eq("the greatest", f.indexByCounts(), 9);
        f.uncite(0, 1);
        eq("nine notes are cited nine times still", f.indexByCounts(), 9);
        f.uncite(1, 0);
        eq("only eight are", f.indexByCounts(), 8);
    }

    @Sentence(under = "Promise 16: indexByCounts", says = "Returns the same number as index")
    static void emptyAgainAfterAllCitations() {
        f.saveSnapshot();
        notes(10).on(f);
        allCiteAll(f);
        eq("full", f.index() + f.indexByCounts(), 18);
        eq("full", f.circles() + f.circlesByTable(), 2);
        eq("full", f.noteByCitations(9), 0);
        f.restoreSnapshot();
        eq("empty", f.index() + f.indexByCounts(), 0);
        eq("empty", f.circles() + f.circlesByTable(), 0);
        Check.thrown("empty", NONE, () -> f.noteByCitations(0));
        f.addNote(0, 1);
        eq("one note", f.index() + f.indexByCounts(), 0);
        eq("one note", f.circles() + f.circlesByTable(), 0);
        eq("one note", f.noteByCitations(0), 0);
        eq("it cites none", f.citedBy(0), 0);
    }

    @Sentence(under = "Promise 17: noteByCitations", says = "- `rank`: the rank, from 0")
    static void noteByCitationsTakesRanksFrom0() {
        f.addNote(0, 1);
        eq("the only rank", f.noteByCitations(0), 0);
        f = made(notes(10));
        eq("the first rank", f.noteByCitations(0), 9);
        eq("the last rank", f.noteByCitations(9), 0);
    }

    @Sentence(under = "Promise 17: noteByCitations", says = "Throws `NoSuchElementException` if there is no such rank")
    static void noteByCitationsNeedsRank() {
        needsNote("noteByCitations", (x, rank) -> x.noteByCitations(rank));
    }

    @Sentence(under = "Promise 17: noteByCitations",
        says = "for equal numbers, the heavier one comes first, then the one with the lower number")
    static void noteByCitationsBreaksTies() {
        int[] weights = {9, 10, 10, 10, 1};
        for (int weight : weights) {
            f.addNote(0, weight);
        }
        f.cite(0, 4);
        f.cite(1, 2);
        f.cite(2, 1);
        Check.same("one citation more, one unit more, the lower number", ranks(), "12430");
        f.cite(3, 4);
        Check.same("more citations ahead of more weight", ranks(), "41230");
        f = made(x -> {
            for (int note = 0; note < 10; note++) {
                x.addNote(11, 30);
            }
        });
        Check.same("all alike", ranks(), "0123456789");
    }

    private static String ranks() {
        StringBuilder text = new StringBuilder();
        for (int rank = 0; rank < f.noteCount(); rank++) {
            text.append(f.noteByCitations(rank));
        }
        return text.toString();
    }
}
