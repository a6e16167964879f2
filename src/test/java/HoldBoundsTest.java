/** The boundaries that the promises 31 to 47 name: hold, landings, licences, days and accounts. */
public final class HoldBoundsTest extends Bounds {
    private HoldBoundsTest() {
    }

    public static void main(String[] args) {
        runAll(HoldBoundsTest.class);
    }

    // ---- promises 31 to 33

    @Sentence(under = "Promise 31: land", says = "Returns the weight that is landed.")
    static void landReturns0To300() {
        f = made(held(0, 1));
        eq("nothing fits", f.land(), 0);
        f = made(held(1, 1));
        eq("the least weight", f.land(), 1);
        f = made(HoldBoundsTest::fullHold);
        eq("the greatest weight", f.land(), 300);
        Check.same("all are landed", states(f), "llllllllll");
    }

    /** Ten notes of the greatest weight in the hold, on ten pages that have room for them. */
    private static void fullHold(FootnoteFishery x) {
        passTo(x, 30);
        x.buyLicence();
        x.addNet(0, 10, 30);
        for (int note = 0; note < 10; note++) {
            x.setQuota(note, 30);
            x.addNote(note, 30);
        }
        x.haul(0);
    }

    @Sentence(under = "Promise 31: land", says = "Throws `UnsupportedOperationException` if denied: 7")
    static void landIsDeniedWithAnEmptyHold() {
        denies("without notes", 7, 0, NOTHING, x -> x.land());
        denies("ten floating notes", 7, 10, notes(10), x -> x.land());
        denies("the hold was landed", 7, 0, both(held(20, 20), x -> x.land()), x -> x.land());
        denies("the hold was returned", 7, 1, both(held(19, 20), x -> x.land()), x -> x.land());
        denies("the only held note was freed", 7, 1, both(held(20, 20), x -> x.free(0)), x -> x.land());
        f = made(held(0, 1));
        eq("one held note is enough", f.land(), 0);
    }

    @Sentence(under = "Promise 32: free", says = "Returns the number of notes that are held afterwards.")
    static void freeReturns9To0() {
        f = made(held(99, times(10, 1)));
        for (int note = 0; note < 10; note++) {
            eq("held", f.free(note), 9 - note);
        }
        Check.same("all float", states(f), "ffffffffff");
    }

    @Sentence(under = "Promise 32: free", says = "Returns one held note, which floats on its page again.")
    static void freedNotesFloatAgain() {
        f = made(held(99, 5, 6));
        f.setCurrent(0, -1);
        f.free(1);
        Check.same("one note alone", states(f), "hf");
        eq("on its page", f.floatingOn(0), 1);
        eq("it drifts", f.pass(1), 1);
        eq("before the page 0", f.pageOf(1), 11);
        eq("the other stays", f.pageOf(0), 0);
        eq("returned", f.returned(), 1);
    }

    @Sentence(under = "Promise 32: free", says = "Throws `NoSuchElementException` if there is no such note")
    static void freeNeedsNote() {
        needsNote("free", (x, note) -> x.free(note));
        for (int wrong : outside(0, 2)) {
            refuses("free with a hold", NONE, held(99, 1, 2, 3), x -> x.free(wrong));
        }
    }

    @Sentence(under = "Promise 32: free", says = "Throws `UnsupportedOperationException` if denied: 4")
    static void freeIsDeniedUnlessHeld() {
        denies("the first note floats", 4, 0, notes(10), x -> x.free(0));
        denies("the last note floats", 4, 9, notes(10), x -> x.free(9));
        denies("a landed note", 4, 0, both(held(20, 20), x -> x.land()), x -> x.free(0));
        denies("a returned note", 4, 0, both(held(19, 20), x -> x.land()), x -> x.free(0));
        denies("a note that was freed", 4, 1, both(held(20, 20, 1), x -> x.free(1)), x -> x.free(1));
        f = made(held(20, 20));
        eq("a held note", f.free(0), 0);
    }

    @Sentence(under = "Promise 33: heldCount", says = "Returns the number of notes.")
    static void heldCountIs0To10() {
        eq("without notes", f.heldCount(), 0);
        f = made(floating(10, times(10, 1)));
        eq("all float", f.heldCount(), 0);
        f.haul(0);
        eq("all are held", f.heldCount(), 10);
        f.free(9);
        eq("all but one", f.heldCount(), 9);
        f.land();
        eq("all are landed", f.heldCount(), 0);
    }

    // ---- promises 34 to 36

    @Sentence(under = "Promise 34: bestLanding", says = "Returns the weight, 0 if the hold is empty.")
    static void bestLandingIs0To300() {
        eq("without notes", f.bestLanding(), 0);
        eq("notes that float", made(floating(99, 10, 10)).bestLanding(), 0);
        eq("no room", made(held(0, 1)).bestLanding(), 0);
        eq("a unit too little room", made(held(19, 20)).bestLanding(), 0);
        eq("just enough room", made(held(20, 20)).bestLanding(), 20);
        eq("the full hold", made(HoldBoundsTest::fullHold).bestLanding(), 300);
        eq("landed already", made(both(held(20, 20), x -> x.land())).bestLanding(), 0);
    }

    @Sentence(under = "Promise 35: bestLandingBySets",
        says = "Returns the same weight as bestLanding, found by trying all sets of held notes.")
    static void bestLandingBySetsIs0To300() {
        eq("without notes", f.bestLandingBySets(), 0);
        eq("notes that float", made(floating(99, 10, 10)).bestLandingBySets(), 0);
        eq("no room", made(held(0, 1)).bestLandingBySets(), 0);
        eq("a unit too little room", made(held(19, 20)).bestLandingBySets(), 0);
        eq("just enough room", made(held(20, 20)).bestLandingBySets(), 20);
        eq("the full hold", made(HoldBoundsTest::fullHold).bestLandingBySets(), 300);
        eq("landed already", made(both(held(20, 20), x -> x.land())).bestLandingBySets(), 0);
    }

    @Sentence(under = "Promise 36: wouldLand", says = "Returns whether a note would be landed if the hold was landed now.")
    static void wouldLandOfEachState() {
        f = made(floating(20, 20));
        Check.that("it floats", !f.wouldLand(0));
        f.haul(0);
        Check.that("just enough room", f.wouldLand(0));
        f.setQuota(0, 19);
        Check.that("a unit too little room", !f.wouldLand(0));
        f.setQuota(0, 20);
        f.land();
        f.setQuota(0, 99);
        Check.that("landed already", !f.wouldLand(0));
        f = made(HoldBoundsTest::fullHold);
        Check.that("the first and the last of a full hold", f.wouldLand(0) && f.wouldLand(9));
    }

    @Sentence(under = "Promise 36: wouldLand", says = "Throws `NoSuchElementException` if there is no such note")
    static void wouldLandNeedsNote() {
        needsNote("wouldLand", (x, note) -> x.wouldLand(note));
        for (int wrong : outside(0, 2)) {
            refuses("wouldLand with a hold", NONE, held(99, 1, 2, 3), x -> x.wouldLand(wrong));
        }
    }

    // ---- promise 37

    /** Leads to the first day of a season with this many coins, which are even and at most 60, and no licence. */
    private static Step coins(int season, int coins) {
        return x -> {
            buyInAllSeasons(x);
            if (coins > 0) {
                landWeight(x, coins / 2);
            }
            passTo(x, 120 + 30 * season);
        };
    }

    /** Leads to the season 3 with a licence and no coins. */
    private static void buyInAllSeasons(FootnoteFishery x) {
        for (int season = 0; season < 4; season++) {
            passTo(x, 30 * season);
            x.buyLicence();
        }
    }

    private static void landWeight(FootnoteFishery x, int weight) {
        x.setQuota(0, 99);
        x.addNet(0, 1, 1);
        x.addNote(0, weight);
        x.haul(0);
        x.land();
    }

    @Sentence(under = "Promise 37: buyLicence", says = "Returns the coins afterwards.")
    static void buyLicenceReturns0AtLeast() {
        eq("of 100 coins", f.buyLicence(), 80);
        f.pass(30);
        eq("of 80 coins", f.buyLicence(), 50);
        f.pass(30);
        eq("of 50 coins", f.buyLicence(), 10);
        f.pass(30);
        eq("of just enough coins", f.buyLicence(), 0);
        int[] prices = {20, 30, 40, 10};
        for (int season = 0; season < 4; season++) {
            FootnoteFishery exact = made(coins(season, prices[season]));
            eq("season", exact.season(), season);
            eq("coins", exact.coins(), prices[season]);
            eq("of just enough coins", exact.buyLicence(), 0);
            eq("two coins more", made(coins(season, prices[season] + 2)).buyLicence(), 2);
        }
    }

    @Sentence(under = "Promise 37: buyLicence", says = "Throws `UnsupportedOperationException` if denied: 8, 6")
    static void buyLicenceIsDeniedForTooFewCoins() {
        int[] prices = {20, 30, 40, 10};
        for (int season = 0; season < 4; season++) {
            denies("the fewest coins too few", 6, 2, coins(season, prices[season] - 2), x -> x.buyLicence());
            denies("no coins", 6, prices[season], coins(season, 0), x -> x.buyLicence());
        }
    }

    @Sentence(under = "Promise 37: buyLicence", says = "Throws `UnsupportedOperationException` if denied: 8, 6")
    static void buyLicenceIsDenied8AheadOf6() {
        int[] prices = {20, 30, 40, 10};
        for (int season = 0; season < 4; season++) {
            denies("a licence and no coins", 8, season, both(coins(season, prices[season]), x -> x.buyLicence()), x -> x.buyLicence());
            denies("a licence and coins", 8, season, both(day(30 * season), x -> x.buyLicence()), x -> x.buyLicence());
        }
    }

    // ---- promises 38 to 41

    @Sentence(under = "Promise 38: pass", says = "- `days`: the number of days, 1 to 40")
    static void passTakes1To40Days() {
        eq("the fewest", f.pass(1), 0);
        eq("day", f.day(), 1);
        eq("the most", f.pass(40), 0);
        eq("day", f.day(), 41);
    }

    @Sentence(under = "Promise 38: pass",
        says = "Returns the number of moves of notes from one page to another one in these days.")
    static void passReturns0To400() {
        notes(10).on(f);
        eq("no currents", f.pass(40), 0);
        f = made(both(notes(10), PAGES_FLOW));
        eq("each note once", f.pass(1), 10);
        eq("each note forty times", f.pass(40), 400);
        f = made(PAGES_FLOW);
        eq("no notes", f.pass(40), 0);
        f = made(both(both(held(99, 1, 2), x -> x.free(1)), PAGES_FLOW));
        eq("held notes stay", f.pass(1), 1);
    }

    private static final Step PAGES_FLOW = x -> {
        for (int page = 0; page < 12; page++) {
            x.setCurrent(page, 1);
        }
    };

    @Sentence(under = "Promise 38: pass", says = "Throws `IllegalArgumentException` if the number of days is out of range")
    static void passRefusesOtherDays() {
        needsRange("pass", 1, 40, both(notes(3), PAGES_FLOW), (x, days) -> x.pass(days));
        refuses("days back", BAD, day(41), x -> x.pass(-1));
    }

    @Sentence(under = "Promise 39: hasLicence", says = "Returns whether there is a licence.")
    static void hasLicenceTillTheLastDay() {
        Check.that("at first", !f.hasLicence());
        f.buyLicence();
        Check.that("bought", f.hasLicence());
        f.pass(29);
        Check.that("on the last day of the season", f.hasLicence());
        f.pass(1);
        Check.that("on the first day of the next season", !f.hasLicence());
        f = made(both(day(29), x -> x.buyLicence()));
        Check.that("bought on the last day", f.hasLicence());
        f.pass(1);
        Check.that("on the first day of the next season", !f.hasLicence());
        f = made(both(day(119), x -> x.buyLicence()));
        f.pass(1);
        Check.that("on the first day of the next year", !f.hasLicence());
    }

    @Sentence(under = "Promise 40: day", says = "Returns the number of days that have passed.")
    static void dayGoesOnWithTheYears() {
        eq("at first", f.day(), 0);
        for (int call = 1; call <= 30; call++) {
            f.pass(40);
            eq("day", f.day(), 40 * call);
        }
        f.pass(1);
        eq("after ten years and a day", f.day(), 1201);
    }

    @Sentence(under = "Promise 41: season", says = "Returns the season, 0 to 3.")
    static void seasonIs0To3() {
        for (int day = 0; day < 250; day++) {
            eq("season of the day " + day, f.season(), day / 30 % 4);
            f.pass(1);
        }
    }

    // ---- promises 42 to 45

    @Sentence(under = "Promise 42: coins", says = "Returns the number of coins.")
    static void coinsAre0AtLeast() {
        eq("at first", f.coins(), 100);
        buyInAllSeasons(f);
        f.pass(30);
        eq("all are spent", f.coins(), 0);
        Check.thrown("a licence", DENIED, () -> f.buyLicence());
        eq("still none", f.coins(), 0);
        f = made(both(HoldBoundsTest::fullHold, x -> x.land()));
        eq("with those of the heaviest landing", f.coins(), 70 + 600);
    }

    @Sentence(under = "Promise 43: caught", says = "it is always the sum of landed, returned and heldCount")
    static void caughtIsAlwaysTheSum() {
        caughtIs("without notes", 0);
        f = made(floating(15, times(10, 10)));
        caughtIs("all float", 0);
        f.haul(0);
        caughtIs("all are held", 10);
        f.haul(0);
        caughtIs("an empty haul", 10);
        f.free(0);
        caughtIs("one is freed", 10);
        f.land();
        caughtIs("one is landed", 10);
        f.haul(0);
        caughtIs("nine are held again", 19);
        f.undo();
        caughtIs("undone", 10);
    }

    private static void caughtIs(String what, int count) {
        eq(what, f.caught(), count);
        eq(what + ", the sum", f.landed() + f.returned() + f.heldCount(), count);
    }

    @Sentence(under = "Promise 44: landed", says = "Returns the number of notes.")
    static void landedIs0To10() {
        eq("without notes", f.landed(), 0);
        f = made(held(0, 1));
        f.land();
        eq("nothing fits", f.landed(), 0);
        f = made(HoldBoundsTest::fullHold);
        eq("all are held", f.landed(), 0);
        f.land();
        eq("all are landed", f.landed(), 10);
        f.pass(30);
        eq("so far, also in another season", f.landed(), 10);
    }

    @Sentence(under = "Promise 45: returned", says = "Returns how often notes have been returned so far, by landings and one by one.")
    static void returnedCountsBoth() {
        eq("at first", f.returned(), 0);
        f = made(held(0, times(10, 1)));
        eq("all are held", f.returned(), 0);
        f.free(9);
        eq("one by one", f.returned(), 1);
        f.land();
        eq("by a landing", f.returned(), 10);
        f.haul(0);
        f.land();
        eq("the same ones again", f.returned(), 20);
        f = made(HoldBoundsTest::fullHold);
        f.land();
        eq("all are landed", f.returned(), 0);
    }

    // ---- promises 46 and 47

    @Sentence(under = "Promise 46: meanWeight", says = "Throws `ArithmeticException` if no note is floating")
    static void meanWeightNeedsAFloatingNote() {
        refuses("without notes", NO_MEAN, NOTHING, x -> x.meanWeight());
        refuses("all are held", NO_MEAN, held(99, 1, 2), x -> x.meanWeight());
        refuses("all are landed", NO_MEAN, both(held(99, 1, 2), x -> x.land()), x -> x.meanWeight());
        refuses("one is held, one landed", NO_MEAN, both(held(2, 1, 2), x -> {
            x.land();
            x.haul(0);
        }), x -> x.meanWeight());
        f = made(both(held(99, 1, 2), x -> x.free(1)));
        Check.that("one floats", f.meanWeight() == 2.0);
    }

    @Sentence(under = "Promise 46: meanWeight",
        says = "Returns the mean weight of the floating notes: the sum converted to double, divided by their number converted to double.")
    static void meanWeightIs1To30() {
        Check.that("the least", made(floating(0, 1)).meanWeight() == 1.0);
        Check.that("the greatest", made(floating(0, times(10, 30))).meanWeight() == 30.0);
        Check.that("not rounded down", made(floating(0, 1, 2)).meanWeight() == 1.5);
        Check.that("not rounded to float", made(floating(0, 1, 1, 2)).meanWeight() == 4.0 / 3.0);
    }

    @Sentence(under = "Promise 47: landedShare", says = "Throws `ArithmeticException` if there are no notes")
    static void landedShareNeedsANote() {
        refuses("without notes", NO_MEAN, NOTHING, x -> x.landedShare());
        refuses("the only note was undone", NO_MEAN, both(notes(1), x -> x.undo()), x -> x.landedShare());
        f.addNote(0, 1);
        Check.that("one note", f.landedShare() == 0.0f);
    }

    @Sentence(under = "Promise 47: landedShare", says = "Returns the share of all notes that are landed, both numbers converted to float.")
    static void landedShareIs0To1() {
        Check.that("none", made(held(99, times(9, 11))).landedShare() == 0.0f);
        Check.that("all", made(both(HoldBoundsTest::fullHold, x -> x.land())).landedShare() == 1.0f);
        Check.that("one of ten", made(both(held(1, times(10, 1)), x -> x.land())).landedShare() == 1.0f / 10.0f);
        Check.that("one of three", made(both(held(1, 1, 1, 1), x -> x.land())).landedShare() == 1.0f / 3.0f);
        Check.that("nine of ten", made(both(held(9, times(10, 1)), x -> x.land())).landedShare() == 9.0f / 10.0f);
    }
}
