/** The boundaries that the promises 18 to 30 name: pages and nets. */
public final class PagesBoundsTest extends Bounds {
    private PagesBoundsTest() {
    }

    public static void main(String[] args) {
        runAll(PagesBoundsTest.class);
    }

    // ---- promises 18 and 19

    @Sentence(under = "Promise 18: setCurrent", says = "- `page`: the page, 0 to 11")
    static void setCurrentTakesPages0To11() {
        eq("the first page", f.setCurrent(0, 1), 0);
        eq("the last page", f.setCurrent(11, -1), 0);
        eq("current of the first", f.current(0), 1);
        eq("current of the last", f.current(11), -1);
        eq("current beside it", f.current(1) + f.current(10), 0);
        needsRange("setCurrent, page", 0, 11, NOTHING, (x, page) -> x.setCurrent(page, 1));
    }

    @Sentence(under = "Promise 18: setCurrent", says = "- `current`: the current, -1 to 1")
    static void setCurrentTakesMinus1To1() {
        f.setCurrent(4, -1);
        eq("the least", f.current(4), -1);
        f.setCurrent(4, 1);
        eq("the greatest", f.current(4), 1);
        f.setCurrent(4, 0);
        eq("none", f.current(4), 0);
        needsRange("setCurrent, current", -1, 1, NOTHING, (x, current) -> x.setCurrent(4, current));
    }

    @Sentence(under = "Promise 18: setCurrent", says = "Returns the current before.")
    static void setCurrentReturnsMinus1To1() {
        eq("initially", f.setCurrent(4, -1), 0);
        eq("the least", f.setCurrent(4, 1), -1);
        eq("the greatest", f.setCurrent(4, 1), 1);
        eq("the same again", f.setCurrent(4, 0), 1);
        eq("none", f.setCurrent(4, 0), 0);
    }

    @Sentence(under = "Promise 18: setCurrent", says = "Throws `IllegalArgumentException` if the page or the current is out of range")
    static void setCurrentRefusesBoth() {
        refuses("both", BAD, NOTHING, x -> x.setCurrent(12, 2));
        refuses("both", BAD, NOTHING, x -> x.setCurrent(-1, -2));
    }

    @Sentence(under = "Promise 19: setQuota", says = "- `page`: the page, 0 to 11")
    static void setQuotaTakesPages0To11() {
        eq("the first page", f.setQuota(0, 7), 20);
        eq("the last page", f.setQuota(11, 8), 20);
        eq("quota of the first", f.quota(0), 7);
        eq("quota of the last", f.quota(11), 8);
        eq("quota beside it", f.quota(1) + f.quota(10), 40);
        needsRange("setQuota, page", 0, 11, NOTHING, (x, page) -> x.setQuota(page, 7));
    }

    @Sentence(under = "Promise 19: setQuota", says = "- `quota`: the quota, 0 to 99")
    static void setQuotaTakes0To99() {
        f.setQuota(4, 0);
        eq("the least", f.quota(4), 0);
        f.setQuota(4, 99);
        eq("the greatest", f.quota(4), 99);
        needsRange("setQuota, quota", 0, 99, NOTHING, (x, quota) -> x.setQuota(4, quota));
    }

    @Sentence(under = "Promise 19: setQuota", says = "Returns the quota before.")
    static void setQuotaReturns0To99() {
        eq("initially", f.setQuota(4, 0), 20);
        eq("the least", f.setQuota(4, 99), 0);
        eq("the greatest", f.setQuota(4, 99), 99);
        eq("the same again", f.setQuota(4, 1), 99);
        passTo(f, 60);
        eq("as it was set, in the season 2", f.setQuota(4, 2), 1);
    }

    @Sentence(under = "Promise 19: setQuota", says = "Throws `IllegalArgumentException` if the page or the quota is out of range")
    static void setQuotaRefusesBoth() {
        refuses("both", BAD, NOTHING, x -> x.setQuota(12, 100));
        refuses("both", BAD, NOTHING, x -> x.setQuota(-1, -1));
        refuses("100 in the season 2", BAD, day(60), x -> x.setQuota(0, 100));
    }

    // ---- promises 20 to 23

    @Sentence(under = "Promise 20: current", says = "- `page`: the page, 0 to 11")
    static void currentTakesPages0To11() {
        f.setCurrent(0, 1);
        f.setCurrent(11, -1);
        eq("the first page", f.current(0), 1);
        eq("the last page", f.current(11), -1);
    }

    @Sentence(under = "Promise 20: current", says = "Throws `IllegalArgumentException` if there is no such page")
    static void currentNeedsPage() {
        needsRange("current", 0, 11, notes(3), (x, page) -> x.current(page));
    }

    @Sentence(under = "Promise 21: quota", says = "- `page`: the page, 0 to 11")
    static void quotaTakesPages0To11() {
        f.setQuota(0, 0);
        f.setQuota(11, 99);
        eq("the first page", f.quota(0), 0);
        eq("the last page", f.quota(11), 99);
    }

    @Sentence(under = "Promise 21: quota", says = "Returns the quota of a page, as it was set.")
    static void quotaIsAsItWasSet() {
        f.setQuota(11, 99);
        passTo(f, 60);
        eq("in the season 2", f.quota(11), 99);
        eq("in the season 2, initially", f.quota(0), 20);
        f = made(held(30, 30));
        f.land();
        eq("after a landing", f.quota(0), 30);
    }

    @Sentence(under = "Promise 21: quota", says = "Throws `IllegalArgumentException` if there is no such page")
    static void quotaNeedsPage() {
        needsRange("quota", 0, 11, notes(3), (x, page) -> x.quota(page));
    }

    @Sentence(under = "Promise 22: room", says = "- `page`: the page, 0 to 11")
    static void roomTakesPages0To11() {
        f.setQuota(0, 0);
        f.setQuota(11, 99);
        eq("the first page", f.room(0), 0);
        eq("the last page", f.room(11), 99);
        passTo(f, 60);
        eq("the first page in the season 2", f.room(0), 0);
        eq("the last page in the season 2", f.room(11), 198);
    }

    @Sentence(under = "Promise 22: room", says = "Throws `IllegalArgumentException` if there is no such page")
    static void roomNeedsPage() {
        needsRange("room", 0, 11, notes(3), (x, page) -> x.room(page));
    }

    @Sentence(under = "Promise 23: floatingOn", says = "- `page`: the page, 0 to 11")
    static void floatingOnTakesPages0To11() {
        f.addNote(0, 1);
        f.addNote(11, 1);
        f.addNote(11, 1);
        eq("the first page", f.floatingOn(0), 1);
        eq("the last page", f.floatingOn(11), 2);
        eq("beside it", f.floatingOn(1) + f.floatingOn(10), 0);
    }

    @Sentence(under = "Promise 23: floatingOn", says = "Returns the number of notes.")
    static void floatingOnIs0To10() {
        eq("without notes", f.floatingOn(0), 0);
        floating(99, times(10, 10)).on(f);
        eq("all notes", f.floatingOn(0), 10);
        f.haul(0);
        eq("none of the held", f.floatingOn(0), 0);
        f.land();
        eq("the one that was returned", f.floatingOn(0), 1);
    }

    @Sentence(under = "Promise 23: floatingOn", says = "Throws `IllegalArgumentException` if there is no such page")
    static void floatingOnNeedsPage() {
        needsRange("floatingOn", 0, 11, notes(3), (x, page) -> x.floatingOn(page));
    }

    // ---- promises 24 and 25

    @Sentence(under = "Promise 24: addNet", says = "- `first`: the first page, 0 to 11")
    static void addNetTakesFirstPages0To11() {
        eq("the first page", f.addNet(0, 1, 10), 0);
        eq("the last page", f.addNet(11, 1, 10), 1);
        Check.same("the first page", pagesOf(f, 0), "[0]");
        Check.same("the last page", pagesOf(f, 1), "[11]");
        needsRange("addNet, first", 0, 11, nets(1), (x, first) -> x.addNet(first, 1, 10));
    }

    @Sentence(under = "Promise 24: addNet", says = "- `span`: the span, 1 to 12")
    static void addNetTakesSpans1To12() {
        eq("the least span", f.addNet(5, 1, 10), 0);
        eq("the greatest span", f.addNet(5, 12, 10), 1);
        Check.same("the least span", pagesOf(f, 0), "[5]");
        Check.same("the greatest span", pagesOf(f, 1), "[0, 1, 2, 3, 4, 5, 6, 7, 8, 9, 10, 11]");
        needsRange("addNet, span", 1, 12, nets(1), (x, span) -> x.addNet(5, span, 10));
    }

    @Sentence(under = "Promise 24: addNet", says = "- `mesh`: the mesh, 1 to 30")
    static void addNetTakesMeshes1To30() {
        f.addNote(0, 1);
        f.addNote(0, 29);
        f.addNote(0, 30);
        eq("the least mesh", f.addNet(0, 1, 1), 0);
        eq("the greatest mesh", f.addNet(0, 1, 30), 1);
        eq("catch with the least mesh", f.catchSize(0), 3);
        eq("catch with the greatest mesh", f.catchSize(1), 1);
        needsRange("addNet, mesh", 1, 30, nets(1), (x, mesh) -> x.addNet(5, 1, mesh));
    }

    @Sentence(under = "Promise 24: addNet", says = "Returns the index of the net.")
    static void addNetReturns0To4() {
        for (int net = 0; net < 5; net++) {
            eq("index", f.addNet(0, 1, 1), net);
        }
        f.removeNet(0);
        eq("the last index after a removal", f.addNet(0, 1, 1), 4);
    }

    @Sentence(under = "Promise 24: addNet", says = "Throws `IllegalArgumentException` if one of the parameters is out of range")
    static void addNetRefusesRangesAheadOfTheLimit() {
        refuses("all three", BAD, NOTHING, x -> x.addNet(12, 13, 31));
        refuses("all three", BAD, NOTHING, x -> x.addNet(-1, 0, 0));
        refuses("the first page of a sixth net", BAD, nets(5), x -> x.addNet(12, 12, 30));
        refuses("the span of a sixth net", BAD, nets(5), x -> x.addNet(11, 13, 30));
        refuses("the mesh of a sixth net", BAD, nets(5), x -> x.addNet(11, 12, 31));
        refuses("the first page of a sixth net", BAD, nets(5), x -> x.addNet(-1, 1, 1));
        refuses("the span of a sixth net", BAD, nets(5), x -> x.addNet(0, 0, 1));
        refuses("the mesh of a sixth net", BAD, nets(5), x -> x.addNet(0, 1, 0));
    }

    @Sentence(under = "Promise 24: addNet", says = "Throws `UnsupportedOperationException` if denied: 1 (5 nets)")
    static void addNetDeniesTheSixth() {
        nets(4).on(f);
        eq("the fifth net", f.addNet(0, 1, 1), 4);
        denies("the sixth net", 1, 5, nets(5), x -> x.addNet(0, 1, 1));
        f.removeNet(4);
        eq("a fifth net again", f.addNet(0, 1, 1), 4);
    }

    @Sentence(under = "Promise 25: removeNet", says = "Returns the number of nets afterwards.")
    static void removeNetReturns4To0() {
        nets(5).on(f);
        eq("the last of five", f.removeNet(4), 4);
        eq("the first of four", f.removeNet(0), 3);
        eq("the middle of three", f.removeNet(1), 2);
        eq("the first of two", f.removeNet(0), 1);
        eq("the only one", f.removeNet(0), 0);
    }

    @Sentence(under = "Promise 25: removeNet", says = "Throws `IndexOutOfBoundsException` if there is no such net")
    static void removeNetNeedsNet() {
        needsNet("removeNet", (x, net) -> x.removeNet(net));
        refuses("the index of the last net after a removal", OUT, both(nets(3), x -> x.removeNet(0)), x -> x.removeNet(2));
    }

    // ---- promise 26

    @Sentence(under = "Promise 26: haul", says = "Returns the number of notes that it catches.")
    static void haulReturns0To10() {
        f = made(floating(99));
        eq("without notes", f.haul(0), 0);
        f = made(floating(99, times(10, 1)));
        eq("all notes", f.haul(0), 10);
        eq("none is left", f.haul(0), 0);
        f.free(9);
        eq("one is left", f.haul(0), 1);
    }

    @Sentence(under = "Promise 26: haul", says = "Throws `IndexOutOfBoundsException` if there is no such net")
    static void haulNeedsNet() {
        needsNet("haul", (x, net) -> x.haul(net));
        for (int wrong : outside(0, 2)) {
            refuses("haul with a licence", OUT, both(nets(3), x -> x.buyLicence()), x -> x.haul(wrong));
        }
    }

    @Sentence(under = "Promise 26: haul", says = "Throws `UnsupportedOperationException` if denied: 2, 3")
    static void haulIsDenied2AheadOf3() {
        Step twoMeshes = x -> {
            x.addNote(0, 30);
            x.addNet(0, 1, 9);
            x.addNet(0, 1, 10);
        };
        denies("neither a licence nor the mesh", 2, 0, twoMeshes, x -> x.haul(0));
        denies("no licence", 2, 0, twoMeshes, x -> x.haul(1));
        denies("the mesh", 3, 9, both(twoMeshes, x -> x.buyLicence()), x -> x.haul(0));
        denies("no licence on the last day of the season 1", 2, 1, both(twoMeshes, day(59)), x -> x.haul(0));
        denies("no licence on the first day of the season 2", 2, 2, both(twoMeshes, day(60)), x -> x.haul(0));
        denies("no licence in the season 3", 2, 3, both(twoMeshes, day(90)), x -> x.haul(0));
        twoMeshes.on(f);
        f.buyLicence();
        eq("a licence and the mesh", f.haul(1), 1);
    }

    @Sentence(under = "Promise 26: haul", says = "Throws `UnsupportedOperationException` if denied: 2, 3")
    static void haulIsDenied3ForMeshes1To9() {
        for (int mesh = 1; mesh < 10; mesh++) {
            int small = mesh;
            denies("the mesh " + mesh, 3, mesh, x -> {
                x.addNote(0, 30);
                x.addNet(0, 1, small);
                x.buyLicence();
            }, x -> x.haul(0));
        }
    }

    // ---- promises 27 to 30

    @Sentence(under = "Promise 27: netCount", says = "Returns the number of nets.")
    static void netCountIs0To5() {
        eq("no nets", f.netCount(), 0);
        for (int count = 1; count <= 5; count++) {
            f.addNet(0, 1, 1);
            eq("nets", f.netCount(), count);
        }
        Check.thrown("the sixth net", DENIED, () -> f.addNet(0, 1, 1));
        eq("still full", f.netCount(), 5);
        for (int count = 4; count >= 0; count--) {
            f.removeNet(0);
            eq("nets", f.netCount(), count);
        }
    }

    @Sentence(under = "Promise 28: covers", says = "- `page`: the page, 0 to 11")
    static void coversTakesPages0To11() {
        f.addNet(11, 1, 1);
        f.addNet(0, 1, 1);
        Check.that("the last page", f.covers(0, 11) && !f.covers(1, 11));
        Check.that("the first page", !f.covers(0, 0) && f.covers(1, 0));
    }

    @Sentence(under = "Promise 28: covers", says = "Throws `IndexOutOfBoundsException` if there is no such net")
    static void coversNeedsNetAheadOfPage() {
        needsNet("covers", (x, net) -> x.covers(net, 0));
        needsNet("covers of a page too high", (x, net) -> x.covers(net, 12));
        needsNet("covers of a page too low", (x, net) -> x.covers(net, -1));
    }

    @Sentence(under = "Promise 28: covers", says = "Throws `IllegalArgumentException` if there is no such page")
    static void coversNeedsPage() {
        needsRange("covers of the first net", 0, 11, nets(5), (x, page) -> x.covers(0, page));
        needsRange("covers of the last net", 0, 11, nets(5), (x, page) -> x.covers(4, page));
    }

    @Sentence(under = "Promise 29: catchSize", says = "Returns the number of notes that a net would catch if it could be hauled now.")
    static void catchSizeIs0To10() {
        f.addNet(0, 12, 1);
        eq("without notes, a licence and the mesh", f.catchSize(0), 0);
        notes(10).on(f);
        eq("all notes, without a licence and the mesh", f.catchSize(0), 10);
        f.buyLicence();
        eq("all notes, without the mesh", f.catchSize(0), 10);
        f.addNet(0, 12, 10);
        eq("all notes", f.catchSize(1), 10);
        f.haul(1);
        eq("all are held", f.catchSize(0), 0);
    }

    @Sentence(under = "Promise 29: catchSize", says = "Throws `IndexOutOfBoundsException` if there is no such net")
    static void catchSizeNeedsNet() {
        needsNet("catchSize", (x, net) -> x.catchSize(net));
    }

    @Sentence(under = "Promise 30: bestNet",
        says = "Returns the net that would catch the greatest weight if it could be hauled now, and of several the one with the lowest index.")
    static void bestNetIs0To4() {
        for (int net = 0; net < 5; net++) {
            f.addNet(net, 1, 1);
        }
        f.addNote(4, 1);
        eq("the last one, for the least weight, without a licence", f.bestNet(), 4);
        f.addNote(0, 1);
        eq("as much: the first one", f.bestNet(), 0);
        f.addNote(3, 2);
        eq("one unit more", f.bestNet(), 3);
        f.addNote(0, 1);
        eq("as much: the first one", f.bestNet(), 0);
        f.addNote(4, 2);
        eq("one unit more", f.bestNet(), 4);
    }

    @Sentence(under = "Promise 30: bestNet", says = "Throws `NoSuchElementException` if no net would catch anything")
    static void bestNetNeedsCatch() {
        refuses("without nets and notes", NONE, NOTHING, x -> x.bestNet());
        refuses("without nets", NONE, notes(10), x -> x.bestNet());
        refuses("without notes", NONE, nets(5), x -> x.bestNet());
        Step uncovered = x -> {
            x.addNet(0, 11, 1);
            x.addNote(11, 30);
        };
        refuses("the page is not covered", NONE, uncovered, x -> x.bestNet());
        Step tooLight = x -> {
            x.addNet(0, 12, 30);
            x.addNote(0, 29);
        };
        refuses("a unit too light", NONE, tooLight, x -> x.bestNet());
        refuses("all are held", NONE, held(99, 30, 30), x -> x.bestNet());
        refuses("all are landed", NONE, both(held(99, 30, 30), x -> x.land()), x -> x.bestNet());
        uncovered.on(f);
        f.addNet(1, 11, 30);
        eq("the page is covered, the note heavy enough", f.bestNet(), 1);
    }
}
