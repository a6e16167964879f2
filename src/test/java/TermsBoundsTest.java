/** The boundaries that 'What it is' and the 'Terms' of pages, notes, days, coins, nets, landings and citations name. */
public final class TermsBoundsTest extends Bounds {
    private TermsBoundsTest() {
    }

    public static void main(String[] args) {
        runAll(TermsBoundsTest.class);
    }

    @Sentence(under = "What it is", says = "An object is used for at most 512 calls after it has been made; what later calls answer is free.")
    static void the512thCallStillAnswers() {
        for (int call = 1; call < 512; call++) {
            f.setQuota(0, call % 100);
        }
        eq("the 512th call", f.undo(), 7);
        f = new FootnoteFishery();
        for (int call = 1; call < 512; call++) {
            f.pass(40);
        }
        eq("the 512th call", f.day(), 511 * 40);
        f = new FootnoteFishery();
        // Each text takes 61 calls, the last of them these.
        for (int text = 1; text <= 8; text++) {
            run(f, "wait 10;wait 10;wait 10;wait 10;wait 10;wait 1;wait 1;wait 1");
        }
        eq("calls 489 and on", f.day(), 8 * 53);
    }

    @Sentence(under = "Terms", says = "A note that is caught is landed or returned.")
    static void caughtNotesAreLandedOrReturned() {
        f = made(held(3, 1, 2, 3));
        f.free(0);
        eq("landed", f.land(), 3);
        eq("caught, landed and returned", f.caught() - f.landed() - f.returned(), 0);
        eq("none is held", f.heldCount(), 0);
    }

    // ---- pages

    @Sentence(under = "Terms", says = "There are the pages 0 to 11")
    static void pagesAre0To11() {
        for (int page = 0; page < 12; page++) {
            eq("number of the note", page < 10 ? f.addNote(page, 1) : page, page);
            eq("quota", f.quota(page), 20);
        }
        needsRange("the pages of a quota", 0, 11, NOTHING, (x, page) -> x.quota(page));
        needsRange("the pages of a note", 0, 11, NOTHING, (x, page) -> x.addNote(page, 1));
        needsRange("the pages of a net", 0, 11, NOTHING, (x, page) -> x.addNet(page, 1, 1));
    }

    @Sentence(under = "Terms", says = "in a circle in which page 0 follows page 11")
    static void page0FollowsPage11() {
        f.addNote(11, 1);
        f.addNote(0, 1);
        f.setCurrent(11, 1);
        f.setCurrent(0, -1);
        eq("moves", f.pass(1), 2);
        eq("after the page 11", f.pageOf(0), 0);
        eq("before the page 0", f.pageOf(1), 11);
        f.addNet(11, 2, 1);
        Check.same("a net over the end", pagesOf(f, 0), "[0, 11]");
    }

    @Sentence(under = "Terms", says = "Each page has a current of -1, 0 or 1, initially 0")
    static void currentsAreMinus1To1() {
        for (int page = 0; page < 12; page++) {
            eq("initially", f.current(page), 0);
            for (int current = -1; current <= 1; current++) {
                f.setCurrent(page, current);
                eq("current", f.current(page), current);
            }
        }
        needsRange("a current", -1, 1, NOTHING, (x, current) -> x.setCurrent(0, current));
        needsRange("a current", -1, 1, NOTHING, (x, current) -> x.setCurrent(11, current));
    }

    @Sentence(under = "Terms", says = "and a quota from 0 to 99, initially 20")
    static void quotasAre0To99() {
        for (int page = 0; page < 12; page++) {
            eq("initially", f.quota(page), 20);
            f.setQuota(page, 0);
            eq("the least", f.quota(page), 0);
            f.setQuota(page, 99);
            eq("the greatest", f.quota(page), 99);
        }
        needsRange("a quota", 0, 99, NOTHING, (x, quota) -> x.setQuota(0, quota));
        needsRange("a quota", 0, 99, NOTHING, (x, quota) -> x.setQuota(11, quota));
    }

    // ---- notes

    @Sentence(under = "Terms", says = "At most 10 notes exist, numbered from 0 in the order in which they were added; they are never removed.")
    static void tenNotesExistForEver() {
        for (int note = 0; note < 10; note++) {
            eq("number", f.addNote(note, 30 - note), note);
        }
        for (int note = 0; note < 10; note++) {
            eq("page", f.pageOf(note), note);
            eq("weight", f.weightOf(note), 30 - note);
        }
        Step allLanded = both(held(99, times(10, 9)), x -> x.land());
        denies("an eleventh after all are landed", 1, 10, allLanded, x -> x.addNote(0, 1));
        denies("an eleventh after all are returned", 1, 10, both(held(0, times(10, 9)), x -> x.land()), x -> x.addNote(0, 1));
        allLanded.on(f = new FootnoteFishery());
        eq("landed notes stay", f.noteCount(), 10);
        eq("on their pages", f.pageOf(9), 0);
    }

    @Sentence(under = "Terms", says = "A note has a page, and a weight from 1 to 30.")
    static void weightsAre1To30() {
        for (int weight = 1; weight <= 30; weight++) {
            f = new FootnoteFishery();
            f.addNote(0, weight);
            eq("weight", f.weightOf(0), weight);
        }
        needsRange("a weight", 1, 30, NOTHING, (x, weight) -> x.addNote(0, weight));
        needsRange("a weight", 1, 30, notes(9), (x, weight) -> x.addNote(11, weight));
    }

    @Sentence(under = "Terms", says = "It is floating, held or landed; initially it is floating.")
    static void notesInitiallyFloat() {
        for (int note = 0; note < 10; note++) {
            f.addNote(note, 1);
            eq("state", f.stateOf(note), 'f');
        }
        f = made(both(held(99, 1), x -> x.addNote(0, 1)));
        Check.same("beside a held note", states(f), "hf");
        f.land();
        f.addNote(0, 1);
        Check.same("beside a landed note", states(f), "lff");
    }

    @Sentence(under = "Terms", says = "A note can cite any other note, at most once each")
    static void notesCiteAllOthersOnce() {
        notes(10).on(f);
        for (int note = 0; note < 10; note++) {
            for (int other = 0; other < 10; other++) {
                if (other != note) {
                    eq("cites", f.cite(note, other), other < note ? other + 1 : other);
                }
            }
        }
        Check.thrown("once more", DENIED, () -> f.cite(0, 9));
        eq("it cites all others", f.denialDetail(), 9);
        Check.thrown("itself", BAD, () -> f.cite(9, 9));
    }

    @Sentence(under = "Terms", says = "citations do not depend on where the notes are")
    static void citationsOfAllStates() {
        // The note 0 is landed, 1 is held, and 2 floats on another page.
        f = made(held(1, 1, 2));
        f.land();
        f.haul(0);
        f.addNote(6, 1);
        Check.same("states", states(f), "lhf");
        for (int note = 0; note < 3; note++) {
            eq("one", f.cite(note, (note + 1) % 3), 1);
            eq("two", f.cite(note, (note + 2) % 3), 2);
        }
        eq("one circle", f.circles(), 1);
        eq("cited by two", f.citedBy(0), 2);
        eq("no more", f.uncite(0, 2), 1);
        Check.that("reaches it still", f.reaches(0, 2));
    }

    // ---- days and seasons

    @Sentence(under = "Terms", says = "The day is initially 0. The season is the day divided by 30, rounded down, modulo 4.")
    static void seasonsWrapAround() {
        int[] days = {0, 29, 30, 59, 60, 89, 90, 119, 120, 149, 150, 239, 240};
        int[] seasons = {0, 0, 1, 1, 2, 2, 3, 3, 0, 0, 1, 3, 0};
        eq("initially", f.day(), 0);
        for (int i = 0; i < days.length; i++) {
            passTo(f, days[i]);
            eq("day", f.day(), days[i]);
            eq("season of the day " + days[i], f.season(), seasons[i]);
        }
    }

    /** On this day, with a licence, a heavy note and a net of this mesh on its page. */
    private static Step meshOn(int day, int mesh) {
        return x -> {
            passTo(x, day);
            x.buyLicence();
            x.addNote(0, 30);
            x.addNet(0, 1, mesh);
        };
    }

    @Sentence(under = "Terms", says = "In the season 0, no net with a mesh of less than 10 can be hauled")
    static void meshesOfLessThan10InSeason0() {
        for (int day : new int[] {0, 29, 120, 149}) {
            denies("the mesh 9 on the day " + day, 3, 9, meshOn(day, 9), x -> x.haul(0));
            denies("the mesh 1 on the day " + day, 3, 1, meshOn(day, 1), x -> x.haul(0));
            eq("the mesh 10 on the day " + day, made(meshOn(day, 10)).haul(0), 1);
        }
        for (int day : new int[] {30, 59, 60, 89, 90, 119, 150}) {
            eq("the mesh 9 on the day " + day, made(meshOn(day, 9)).haul(0), 1);
            eq("the mesh 1 on the day " + day, made(meshOn(day, 1)).haul(0), 1);
        }
    }

    @Sentence(under = "Terms", says = "in the season 2, each quota counts twice")
    static void quotasCountTwiceInSeason2() {
        for (int day : new int[] {0, 29, 30, 59, 90, 119, 120, 179, 210}) {
            roomIs(day, 99, 99);
        }
        for (int day : new int[] {60, 89, 180, 209}) {
            roomIs(day, 99, 198);
            roomIs(day, 1, 2);
            roomIs(day, 0, 0);
        }
    }

    private static void roomIs(int day, int quota, int room) {
        FootnoteFishery x = made(day(day));
        x.setQuota(0, quota);
        x.setQuota(11, quota);
        eq("room of the first page on the day " + day, x.room(0), room);
        eq("room of the last page on the day " + day, x.room(11), room);
    }

    @Sentence(under = "Terms", says = "in the season 3, no note drifts")
    static void nothingDriftsInSeason3() {
        f.addNote(0, 1);
        for (int page = 0; page < 12; page++) {
            f.setCurrent(page, 1);
        }
        for (int day = 1; day <= 250; day++) {
            int due = day / 30 % 4 == 3 ? 0 : 1;
            eq("moves when the day " + day + " begins", f.pass(1), due);
        }
    }

    @Sentence(under = "Terms", says = "When a day passes, the day increases by 1.")
    static void dayIncreasesBy1() {
        f.pass(1);
        eq("one day", f.day(), 1);
        f.pass(40);
        eq("forty days", f.day(), 41);
        f.undo();
        eq("undone", f.day(), 1);
    }

    @Sentence(under = "Terms", says = "Then, if the season is another one than on the day before, the licence ends")
    static void licenceEndsWithTheSeason() {
        for (int season = 0; season < 5; season++) {
            f = made(both(day(30 * season), x -> x.buyLicence()));
            f.pass(29);
            Check.that("on the last day of the season", f.hasLicence());
            f.pass(1);
            Check.that("on the first day of the next season", !f.hasLicence());
        }
        f = made(both(day(29), x -> x.buyLicence()));
        f.pass(40);
        Check.that("in the midst of many days", !f.hasLicence());
        f = made(both(day(119), x -> x.buyLicence()));
        f.pass(1);
        Check.that("at the turn of the year", !f.hasLicence());
    }

    @Sentence(under = "Terms", says = "and nothing has been landed on any page in this season")
    static void roomIsNewWithTheSeason() {
        Step landed = x -> {
            x.buyLicence();
            x.addNet(11, 2, 10);
            x.addNote(11, 20);
            x.addNote(0, 19);
            x.haul(0);
            x.land();
        };
        f = made(landed);
        eq("the last page", f.room(11), 0);
        eq("the first page", f.room(0), 1);
        f.pass(29);
        eq("the last page on the last day", f.room(11), 0);
        eq("the first page on the last day", f.room(0), 1);
        f.pass(1);
        eq("the last page in the next season", f.room(11), 20);
        eq("the first page in the next season", f.room(0), 20);
        f = made(both(day(119), landed));
        eq("before the turn of the year", f.room(0), 1);
        f.pass(1);
        eq("after it", f.room(0), 20);
        f = made(landed);
        f.pass(40);
        f.pass(40);
        f.pass(40);
        eq("a year later", f.room(11), 20);
    }

    @Sentence(under = "Terms",
        says = "Then, unless the season is 3, each floating note moves by the current of its page: to the next page if it is 1, and to the page before if it is -1.")
    static void notesMoveByTheCurrentOfTheirPage() {
        for (int page = 0; page < 12; page++) {
            for (int current = -1; current <= 1; current++) {
                f = new FootnoteFishery();
                f.addNote(page, 1);
                f.setCurrent(page, current);
                eq("moves", f.pass(1), current == 0 ? 0 : 1);
                eq("from the page " + page + " by " + current, f.pageOf(0), (page + current + 12) % 12);
            }
        }
    }

    @Sentence(under = "Terms", says = "Then, unless the season is 3")
    static void theNewSeasonTellsOfTheDrift() {
        Step drifting = x -> {
            x.addNote(0, 1);
            x.setCurrent(0, 1);
        };
        eq("when the season 2 begins", made(both(day(59), drifting)).pass(1), 1);
        eq("when the season 3 begins", made(both(day(89), drifting)).pass(1), 0);
        eq("on the last day of the season 3", made(both(day(118), drifting)).pass(1), 0);
        eq("when the season 3 ends", made(both(day(119), drifting)).pass(1), 1);
    }

    @Sentence(under = "Terms", says = "All notes move at the same time.")
    static void notesMoveAtTheSameTime() {
        f.addNote(3, 1);
        f.addNote(4, 1);
        f.addNote(11, 1);
        f.addNote(0, 1);
        f.setCurrent(3, 1);
        f.setCurrent(4, -1);
        f.setCurrent(11, 1);
        f.setCurrent(0, -1);
        eq("they change places", f.pass(1), 4);
        eq("page of 0", f.pageOf(0), 4);
        eq("page of 1", f.pageOf(1), 3);
        eq("page of 2", f.pageOf(2), 0);
        eq("page of 3", f.pageOf(3), 11);
        eq("and back", f.pass(1), 4);
        eq("page of 0", f.pageOf(0), 3);
        eq("page of 3", f.pageOf(3), 0);
    }

    // ---- coins

    @Sentence(under = "Terms", says = "The fishery has 100 coins at first.")
    static void coinsAre100AtFirst() {
        eq("coins", f.coins(), 100);
    }

    @Sentence(under = "Terms",
        says = "A licence holds for the present season; it costs 20 coins in the season 0, 30 in the season 1, 40 in the season 2 and 10 in the season 3.")
    static void licencesCostBySeason() {
        int[] prices = {20, 30, 40, 10, 20, 30, 40, 10};
        for (int season = 0; season < 8; season++) {
            eq("on the first day", made(day(30 * season)).buyLicence(), 100 - prices[season]);
            eq("on the last day", made(day(30 * season + 29)).buyLicence(), 100 - prices[season]);
        }
    }

    @Sentence(under = "Terms", says = "A landed note brings 2 coins for each unit of its weight.")
    static void landedNotesBring2CoinsAUnit() {
        for (int weight : new int[] {1, 2, 29, 30}) {
            f = made(held(weight, weight));
            f.land();
            eq("coins for the weight " + weight, f.coins(), 70 + 2 * weight);
        }
        f = made(held(1, 30, 1));
        f.free(0);
        eq("a freed note brings none", f.coins(), 70);
        f.haul(0);
        f.land();
        eq("a returned note brings none", f.coins(), 72);
    }

    // ---- nets

    @Sentence(under = "Terms", says = "At most 5 nets exist, indexed from 0 in the order in which they were added")
    static void fiveNetsExist() {
        for (int net = 0; net < 5; net++) {
            eq("index", f.addNet(2 * net, 1, 1), net);
        }
        for (int net = 0; net < 5; net++) {
            Check.same("pages", pagesOf(f, net), "[" + 2 * net + "]");
        }
        denies("a sixth", 1, 5, nets(5), x -> x.addNet(0, 1, 1));
        denies("a sixth after a removal", 1, 5, both(nets(5), x -> {
            x.removeNet(0);
            x.addNet(0, 1, 1);
        }), x -> x.addNet(0, 1, 1));
    }

    @Sentence(under = "Terms", says = "when a net is removed, the indices of the later ones decrease by 1")
    static void laterNetsMoveDown() {
        for (int removed = 0; removed < 5; removed++) {
            f = new FootnoteFishery();
            // All of them end with the page 10, on which the notes are.
            for (int net = 0; net < 5; net++) {
                f.addNet(net, 11 - net, 10 + net);
                f.addNote(10, 10 + net);
            }
            eq("nets", f.removeNet(removed), 4);
            for (int net = 0; net < 4; net++) {
                int before = net < removed ? net : net + 1;
                eq("mesh of the net " + net, f.catchSize(net), 5 - before);
                Check.that("first page of the net " + net, f.covers(net, before) && !f.covers(net, (before + 11) % 12));
                Check.that("last page of the net " + net, f.covers(net, 10) && !f.covers(net, 11));
            }
        }
    }

    @Sentence(under = "Terms",
        says = "A net has a first page, a span from 1 to 12 and a mesh from 1 to 30; it covers as many pages as its span, from its first page on.")
    static void netsCoverTheirSpan() {
        for (int first = 0; first < 12; first++) {
            for (int span = 1; span <= 12; span++) {
                f = new FootnoteFishery();
                f.addNet(first, span, 1);
                for (int i = 0; i < 12; i++) {
                    Check.that("net " + first + "+" + span + ", page " + (first + i) % 12, f.covers(0, (first + i) % 12) == i < span);
                }
            }
        }
    }

    @Sentence(under = "Terms", says = "it catches all floating notes on pages that it covers whose weight is at least the mesh")
    static void haulsCatchFromTheMeshOn() {
        for (int mesh : new int[] {1, 2, 15, 29, 30}) {
            f = new FootnoteFishery();
            f.pass(30);
            f.buyLicence();
            f.addNet(11, 2, mesh);
            f.addNote(11, mesh);
            f.addNote(0, 30);
            f.addNote(0, Math.max(1, mesh - 1));
            f.addNote(10, 30);
            f.addNote(1, 30);
            eq("catch with the mesh " + mesh, f.catchSize(0), mesh == 1 ? 3 : 2);
            eq("haul with the mesh " + mesh, f.haul(0), mesh == 1 ? 3 : 2);
            Check.same("at least the mesh, on covered pages", states(f), mesh == 1 ? "hhhff" : "hhfff");
            eq("again", f.haul(0), 0);
        }
    }

    /** Ten notes on the page 0, the last of the greatest weight, each citing the one before; the mesh lets only the last be caught. */
    private static void row(FootnoteFishery x) {
        x.buyLicence();
        x.addNet(0, 1, 30);
        for (int note = 0; note < 10; note++) {
            x.addNote(0, note == 9 ? 30 : 1);
        }
        for (int note = 1; note < 10; note++) {
            x.cite(note, note - 1);
        }
    }

    @Sentence(under = "Terms",
        says = "and again and again also those floating notes on pages that it covers that are cited by a note that it has caught in this haul")
    static void haulsDrawTheLongestRow() {
        row(f);
        eq("the longest row", f.catchSize(0), 10);
        eq("the longest row", f.haul(0), 10);
        f = made(TermsBoundsTest::row);
        f.uncite(1, 0);
        eq("but for the last", f.haul(0), 9);
        f = made(TermsBoundsTest::row);
        f.uncite(9, 8);
        eq("no row", f.haul(0), 1);
        f = new FootnoteFishery();
        f.buyLicence();
        f.addNet(0, 1, 30);
        f.addNote(0, 30);
        for (int note = 1; note < 10; note++) {
            f.addNote(0, 1);
            f.cite(note - 1, note);
        }
        eq("the longest row upwards", f.haul(0), 10);
    }

    @Sentence(under = "Terms", says = "on pages that it covers that are cited by a note that it has caught in this haul")
    static void haulsDrawWithinTheirPagesAndThisHaulOnly() {
        f.buyLicence();
        f.addNet(0, 11, 30);
        f.addNote(0, 30);
        f.addNote(11, 1);
        f.addNote(10, 1);
        f.cite(0, 1);
        f.cite(1, 2);
        eq("the row leaves the pages", f.haul(0), 1);
        f.cite(0, 2);
        eq("a note of an earlier haul draws none", f.haul(0), 0);
        f.free(0);
        eq("in this haul, a lighter one on the last covered page", f.haul(0), 2);
        Check.same("states", states(f), "hfh");
        f.free(0);
        eq("a held note is not caught again", f.haul(0), 1);
    }

    @Sentence(under = "Terms", says = "A caught note is held; it keeps its page.")
    static void caughtNotesKeepTheirPage() {
        f.buyLicence();
        f.addNote(11, 20);
        f.addNote(11, 20);
        f.addNet(11, 1, 20);
        f.setCurrent(11, 1);
        f.setCurrent(0, 1);
        f.haul(0);
        Check.same("held", states(f), "hh");
        eq("no moves", f.pass(29), 0);
        eq("its page", f.pageOf(0), 11);
        eq("land", f.land(), 20);
        eq("the returned one moves", f.pass(1), 1);
        eq("the landed one stays", f.pageOf(0), 11);
        eq("from its page", f.pageOf(1), 0);
    }

    // ---- landings

    @Sentence(under = "Terms",
        says = "The room of a page is its quota, twice in the season 2, less the weight that has been landed on it in this season, but at least 0.")
    static void roomIsAtLeast0() {
        f = made(held(20, 20));
        f.land();
        eq("just full", f.room(0), 0);
        f.setQuota(0, 21);
        eq("one unit more", f.room(0), 1);
        f.setQuota(0, 19);
        eq("one unit less", f.room(0), 0);
        f.setQuota(0, 0);
        eq("the least quota", f.room(0), 0);
        f.setQuota(0, 99);
        eq("the greatest quota", f.room(0), 79);
        f = made(both(held(15, 30), day(60)));
        eq("twice in the season 2", f.room(0), 30);
        f.land();
        eq("just full in the season 2", f.room(0), 0);
        f.setQuota(0, 16);
        eq("two units more in the season 2", f.room(0), 2);
        f.setQuota(0, 14);
        eq("less in the season 2", f.room(0), 0);
        f.setQuota(0, 99);
        eq("the greatest in the season 2", f.room(0), 168);
    }

    @Sentence(under = "Terms", says = "less the weight that has been landed on it in this season, but at least 0")
    static void landingsOfASeasonAddUp() {
        f = made(held(20, 10, 30));
        f.land();
        eq("after one landing", f.room(0), 10);
        f.addNote(0, 10);
        f.addNote(0, 1);
        f.haul(0);
        eq("the second landing", f.land(), 10);
        eq("after two landings", f.room(0), 0);
        f.haul(0);
        eq("the third landing", f.land(), 0);
        f.setQuota(0, 21);
        eq("a unit more", f.room(0), 1);
        f.haul(0);
        eq("the fourth landing", f.land(), 1);
        eq("after four landings", f.room(0), 0);
    }

    @Sentence(under = "Terms", says = "the greatest sum that is not greater than the room of the page")
    static void greatestRoomIsFilled() {
        // Ten notes, and the room of 198 that a quota of 99 makes in the season 2.
        int[] lightest = {17, 18, 19};
        int[] sums = {197, 198, 180};
        String[] dues = {"llllllfffl", "llllllfffl", "llllllffff"};
        for (int i = 0; i < lightest.length; i++) {
            int[] weights = times(10, 30);
            weights[9] = lightest[i];
            FootnoteFishery x = made(both(held(99, weights), day(60)));
            eq("room", x.room(0), 198);
            lands("beside the weight " + lightest[i], x, sums[i], dues[i]);
            eq("room afterwards", x.room(0), 198 - sums[i]);
        }
    }

    private static void landsOf(int room, String due, int... weights) {
        int sum = 0;
        for (int note = 0; note < weights.length; note++) {
            sum += due.charAt(note) == 'l' ? weights[note] : 0;
        }
        lands("the room " + room, made(held(room, weights)), sum, due);
    }

    /** Lands the hold, with this weight and these states of the notes afterwards, as the calls foretell. */
    private static void lands(String what, FootnoteFishery x, int sum, String due) {
        eq(what + ", best landing", x.bestLanding(), sum);
        eq(what + ", best landing by sets", x.bestLandingBySets(), sum);
        for (int note = 0; note < x.noteCount(); note++) {
            Check.that(what + ", the note " + note + " of " + due, x.wouldLand(note) == (due.charAt(note) == 'l'));
        }
        eq(what + ", landing", x.land(), sum);
        Check.same(what + ", states", states(x), due);
    }

    @Sentence(under = "Terms", says = "whose weights together are the greatest sum that is not greater than the room of the page")
    static void greatestSumsThatFit() {
        landsOf(0, "f", 1);
        landsOf(1, "l", 1);
        landsOf(29, "f", 30);
        landsOf(30, "l", 30);
        landsOf(31, "l", 30);
        landsOf(9, "lf", 9, 10);
        landsOf(10, "fl", 9, 10);
        landsOf(18, "fl", 9, 10);
        landsOf(19, "ll", 9, 10);
        landsOf(20, "ffl", 10, 11, 20);
        landsOf(21, "llf", 10, 11, 20);
        landsOf(99, "llllllllll", 9, 10, 10, 10, 10, 10, 10, 10, 10, 10);
        landsOf(98, "flllllllll", 9, 10, 10, 10, 10, 10, 10, 10, 10, 10);
        landsOf(55, "llllllllll", 1, 2, 3, 4, 5, 6, 7, 8, 9, 10);
        landsOf(54, "flllllllll", 1, 2, 3, 4, 5, 6, 7, 8, 9, 10);
    }

    @Sentence(under = "Terms", says = "of the held notes of each page those are landed whose weights together are the greatest sum")
    static void pagesHaveRoomOfTheirOwn() {
        f.pass(30);
        f.buyLicence();
        f.addNet(11, 2, 1);
        f.addNote(11, 10);
        f.addNote(0, 10);
        f.addNote(0, 11);
        f.addNote(11, 1);
        f.setQuota(11, 10);
        f.setQuota(0, 11);
        f.haul(0);
        eq("best landing", f.bestLanding(), 21);
        eq("best landing by sets", f.bestLandingBySets(), 21);
        eq("land", f.land(), 21);
        Check.same("each page by itself", states(f), "lflf");
    }

    @Sentence(under = "Terms", says = "of several such sets, the one that has the note with the lowest number of those that are in one of both sets alone")
    static void lowestNumbersBreakTies() {
        landsOf(10, "lf", 10, 10);
        landsOf(10, "lff", 10, 10, 10);
        landsOf(10, "lfl", 9, 10, 1);
        landsOf(10, "lff", 10, 9, 1);
        landsOf(10, "fllf", 11, 9, 1, 10);
        landsOf(12, "llff", 6, 6, 6, 6);
        landsOf(10, "lffl", 1, 2, 8, 9);
        landsOf(10, "lllfl", 1, 2, 3, 5, 4);
        landsOf(30, "lfffffffff", times(10, 30));
        landsOf(60, "llffffffff", times(10, 30));
        landsOf(99, "lllfffffff", times(10, 30));
    }

    @Sentence(under = "Terms", says = "The other held notes are returned: they float on their pages again.")
    static void othersFloatOnTheirPages() {
        f = made(held(0, times(10, 1)));
        eq("none fits", f.land(), 0);
        Check.same("all float", states(f), "ffffffffff");
        eq("on their page", f.floatingOn(0), 10);
        eq("all are returned", f.returned(), 10);
        f = made(held(99, times(9, 11)));
        eq("all fit", f.land(), 99);
        eq("none is returned", f.returned(), 0);
        eq("none floats", f.floatingOn(0), 0);
    }

    // ---- citations

    @Sentence(under = "Terms",
        says = "A note reaches another one if there is a row of at least one citation from the first one to the second one, each beginning with the note with which the one before ends; a note can reach itself.")
    static void notesReachByRowsOf1To10() {
        notes(10).on(f);
        Check.that("no citation", !f.reaches(0, 0) && !f.reaches(0, 1));
        for (int note = 9; note > 0; note--) {
            f.cite(note, note - 1);
        }
        Check.that("a row of one", f.reaches(1, 0) && !f.reaches(0, 1));
        Check.that("a row of nine", f.reaches(9, 0) && !f.reaches(0, 9));
        Check.that("not itself", !f.reaches(0, 0) && !f.reaches(9, 9));
        f.cite(0, 9);
        Check.that("a row of ten to itself", f.reaches(0, 0) && f.reaches(9, 9) && f.reaches(8, 9));
        f.uncite(5, 4);
        Check.that("the row is broken", !f.reaches(5, 4) && !f.reaches(9, 0) && f.reaches(4, 5));
    }

    @Sentence(under = "Terms", says = "A circle is a set of all notes that reach each other, with at least two notes.")
    static void circlesHaveTwoNotesAtLeast() {
        f.addNote(0, 1);
        circlesAre("one note", 0);
        f.addNote(0, 1);
        f.cite(0, 1);
        circlesAre("one citation", 0);
        eq("in no circle", f.circleSize(0), 1);
        f.cite(1, 0);
        circlesAre("two notes", 1);
        eq("the size of two notes", f.circleSize(0), 2);
        f.addNote(0, 1);
        f.cite(1, 2);
        circlesAre("a third one outside", 1);
        eq("outside", f.circleSize(2), 1);
        f.cite(2, 0);
        circlesAre("all notes, not two circles", 1);
        eq("the size of three notes", f.circleSize(1), 3);
    }

    private static void circlesAre(String what, int count) {
        eq(what, f.circles(), count);
        eq(what + ", by table", f.circlesByTable(), count);
    }

    @Sentence(under = "Terms", says = "The index of all notes is the greatest number h for which at least h notes are cited by at least h notes each.")
    static void indexNeedsJustEnough() {
        indexIs("no notes", 0);
        notes(10).on(f);
        indexIs("no citations", 0);
        for (int h = 1; h <= 9; h++) {
            f = made(enoughFor(h));
            indexIs("just enough for " + h, h);
            f.uncite(h - 1, 9);
            indexIs("one citation too few for " + h, h - 1);
        }
    }

    /** Ten notes, of which the last h are each cited by the first h notes that are others. */
    private static Step enoughFor(int h) {
        return x -> {
            notes(10).on(x);
            for (int cited = 10 - h; cited < 10; cited++) {
                int left = h;
                for (int note = 0; left > 0; note++) {
                    if (note != cited) {
                        x.cite(note, cited);
                        left--;
                    }
                }
            }
        };
    }

    private static void indexIs(String what, int index) {
        eq(what, f.index(), index);
        eq(what + ", by counts", f.indexByCounts(), index);
    }
}
