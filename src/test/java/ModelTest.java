/**
 * Long runs of calls on a fishery and on the model, whose answers must be the same. The runs are
 * always the same ones: their numbers come from a fixed row.
 */
public final class ModelTest {
    private static final int RUNS = 3000;
    /** The document promises nothing about an object after so many calls. */
    private static final int CALLS = 512;
    private static final int CALLS_BEFORE_THE_LAST_LOOK = 300;
    private static final String[] TEXTS = {
        "note 0 9", "note 11 30", "note 3 07", "note 12 1", "note 1 0", "cite 0>1", "cite 1>0", "cite 2>2", "cite 9>8",
        "drop 0>1", "drop 1>0", "current 0=1", "current 11=-1", "current 1=-0", "current 2=2", "net 0+12 10", "net 10+5 1",
        "net 0+13 1", "cut 0", "cut 4", "haul 0", "haul 1", "quota 0=5", "quota 00=99", "land", "free 0", "free 7",
        "licence", "wait 1", "wait 30", "wait 41", "wait 0",
    };
    private static final String SIGNS = "notecipdruhlqaf w;>=+- 0123456789x\u00e9\u2026";

    private long seed;
    private FootnoteFishery real;
    private Model model;
    private StringBuilder trace;
    private int liveliness;
    private int calls;

    private ModelTest(long seed) {
        this.seed = seed;
    }

    public static void main(String[] args) {
        for (int run = 1; run <= RUNS && Check.wrongSoFar() == 0; run++) {
            new ModelTest(run * 7919L).walk(run);
        }
        Check.end("ModelTest");
    }

    private int below(int bound) {
        seed = seed * 6364136223846793005L + 1442695040888963407L;
        return (int) ((seed >>> 33) % bound);
    }

    private int between(int least, int greatest) {
        return least + below(greatest - least + 1);
    }

    /** Mostly within the range, and now and then beyond its ends. */
    private int about(int least, int greatest) {
        int kind = below(24);
        if (kind == 0) {
            return least - 1;
        }
        if (kind == 1) {
            return greatest + 1;
        }
        if (kind == 2) {
            return below(2) == 0 ? Integer.MIN_VALUE : Integer.MAX_VALUE;
        }
        return between(least, greatest);
    }

    private int note() {
        return about(0, Math.max(0, model.noteCount() - 1));
    }

    private int net() {
        return about(0, Math.max(0, model.netCount() - 1));
    }

    private void same(String call, Check.Call got, Check.Call want) {
        if (calls == CALLS) {
            return;
        }
        calls++;
        trace.append(call).append('\n');
        String gotText = Check.answer(got);
        String wantText = Check.answer(want);
        if (!gotText.equals(wantText)) {
            Check.that(trace + "answered " + gotText + ", the model " + wantText, false);
        } else {
            Check.that(call, true);
        }
    }

    private void walk(int run) {
        real = new FootnoteFishery();
        model = new Model();
        trace = new StringBuilder();
        // Some runs fill few pages and buy licences often, so that landings must choose.
        liveliness = run % 3;
        while (calls < CALLS_BEFORE_THE_LAST_LOOK && Check.wrongSoFar() == 0) {
            step();
        }
        if (Check.wrongSoFar() == 0) {
            lookAtAll();
        }
    }

    private void step() {
        int kind = below(40);
        if (kind < 20) {
            change(kind);
        } else if (kind < 23) {
            text();
        } else if (kind < 26) {
            back();
        } else {
            look(below(44));
        }
    }

    private int page() {
        return liveliness == 0 ? about(0, 11) : about(0, 2);
    }

    private void change(int kind) {
        int a = note();
        int b = note();
        int page = page();
        int net = net();
        switch (kind) {
            case 0, 1, 2 -> {
                int weight = about(1, liveliness == 2 ? 12 : 30);
                same("addNote " + page + " " + weight, () -> real.addNote(page, weight), () -> model.addNote(page, weight));
            }
            case 3, 4, 5 -> same("cite " + a + " " + b, () -> real.cite(a, b), () -> model.cite(a, b));
            case 6 -> same("uncite " + a + " " + b, () -> real.uncite(a, b), () -> model.uncite(a, b));
            case 7 -> {
                int current = about(-1, 1);
                same("setCurrent " + page + " " + current, () -> real.setCurrent(page, current), () -> model.setCurrent(page, current));
            }
            case 8 -> {
                int quota = about(0, 99);
                same("setQuota " + page + " " + quota, () -> real.setQuota(page, quota), () -> model.setQuota(page, quota));
            }
            case 9, 10 -> {
                int span = about(1, 12);
                int mesh = about(1, 30);
                same("addNet " + page + " " + span + " " + mesh,
                    () -> real.addNet(page, span, mesh), () -> model.addNet(page, span, mesh));
            }
            case 11 -> same("removeNet " + net, () -> real.removeNet(net), () -> model.removeNet(net));
            case 12, 13, 14, 15 -> haul(net);
            case 16 -> same("land", () -> real.land(), () -> model.land());
            case 17 -> same("free " + a, () -> real.free(a), () -> model.free(a));
            case 18 -> same("buyLicence", () -> real.buyLicence(), () -> model.buyLicence());
            default -> {
                int days = below(3) == 0 ? about(1, 40) : between(1, 9);
                same("pass " + days, () -> real.pass(days), () -> model.pass(days));
            }
        }
    }

    private void haul(int net) {
        if (!model.hasLicence() && below(2) == 0) {
            same("buyLicence", () -> real.buyLicence(), () -> model.buyLicence());
        }
        same("haul " + net, () -> real.haul(net), () -> model.haul(net));
    }

    private void text() {
        StringBuilder text = new StringBuilder();
        int commands = between(1, 5);
        for (int i = 0; i < commands; i++) {
            text.append(i == 0 ? "" : ";").append(TEXTS[below(TEXTS.length)]);
        }
        int damage = below(6);
        int at = below(text.length());
        if (damage == 0) {
            text.setCharAt(at, SIGNS.charAt(below(SIGNS.length())));
        } else if (damage == 1) {
            text.insert(at, SIGNS.charAt(below(SIGNS.length())));
        } else if (damage == 2) {
            text.setLength(at);
        }
        for (char sign : text.toString().toCharArray()) {
            same("feed " + sign, () -> real.feed(sign), () -> model.feed(sign));
        }
        if (below(10) != 0) {
            same("execute", () -> real.execute(), () -> model.execute());
        }
    }

    private void back() {
        switch (below(6)) {
            case 0 -> same("saveSnapshot", () -> real.saveSnapshot(), () -> model.saveSnapshot());
            case 1 -> same("restoreSnapshot", () -> real.restoreSnapshot(), () -> model.restoreSnapshot());
            default -> same("undo", () -> real.undo(), () -> model.undo());
        }
    }

    private void lookAtAll() {
        for (int kind = 0; kind < 44; kind++) {
            look(kind);
        }
        for (int i = 0; i < 12; i++) {
            lookAtPage(i);
        }
        for (int i = 0; i < 11; i++) {
            lookAtNote(i);
        }
    }

    private void lookAtPage(int page) {
        same("current " + page, () -> real.current(page), () -> model.current(page));
        same("quota " + page, () -> real.quota(page), () -> model.quota(page));
        same("room " + page, () -> real.room(page), () -> model.room(page));
        same("floatingOn " + page, () -> real.floatingOn(page), () -> model.floatingOn(page));
    }

    private void lookAtNote(int note) {
        same("writeNote " + note, () -> real.writeNote(note), () -> model.writeNote(note));
        same("wouldLand " + note, () -> real.wouldLand(note), () -> model.wouldLand(note));
        same("circleSize " + note, () -> real.circleSize(note), () -> model.circleSize(note));
        same("noteByCitations " + note, () -> real.noteByCitations(note), () -> model.noteByCitations(note));
    }

    private void look(int kind) {
        int a = note();
        int b = note();
        int page = page();
        int net = net();
        int index = about(0, 27);
        switch (kind) {
            case 0 -> same("noteCount", () -> real.noteCount(), () -> model.noteCount());
            case 1 -> same("pageOf " + a, () -> real.pageOf(a), () -> model.pageOf(a));
            case 2 -> same("weightOf " + a, () -> real.weightOf(a), () -> model.weightOf(a));
            case 3 -> same("stateOf " + a, () -> real.stateOf(a), () -> model.stateOf(a));
            case 4 -> same("citedBy " + a, () -> real.citedBy(a), () -> model.citedBy(a));
            case 5 -> same("doesCite " + a + " " + b, () -> real.doesCite(a, b), () -> model.doesCite(a, b));
            case 6 -> same("reaches " + a + " " + b, () -> real.reaches(a, b), () -> model.reaches(a, b));
            case 7 -> same("circles", () -> real.circles(), () -> model.circles());
            case 8 -> same("circlesByTable", () -> real.circlesByTable(), () -> model.circles());
            case 9 -> same("circleSize " + a, () -> real.circleSize(a), () -> model.circleSize(a));
            case 10 -> same("index", () -> real.index(), () -> model.index());
            case 11 -> same("indexByCounts", () -> real.indexByCounts(), () -> model.index());
            case 12 -> same("noteByCitations " + a, () -> real.noteByCitations(a), () -> model.noteByCitations(a));
            case 13 -> same("current " + page, () -> real.current(page), () -> model.current(page));
            case 14 -> same("quota " + page, () -> real.quota(page), () -> model.quota(page));
            case 15 -> same("room " + page, () -> real.room(page), () -> model.room(page));
            case 16 -> same("floatingOn " + page, () -> real.floatingOn(page), () -> model.floatingOn(page));
            case 17 -> same("netCount", () -> real.netCount(), () -> model.netCount());
            case 18 -> same("covers " + net + " " + page, () -> real.covers(net, page), () -> model.covers(net, page));
            case 19 -> same("catchSize " + net, () -> real.catchSize(net), () -> model.catchSize(net));
            case 20 -> same("bestNet", () -> real.bestNet(), () -> model.bestNet());
            case 21 -> same("heldCount", () -> real.heldCount(), () -> model.heldCount());
            default -> lookFurther(kind, a, index);
        }
    }

    private void lookFurther(int kind, int a, int index) {
        switch (kind) {
            case 22, 23 -> same("bestLanding", () -> real.bestLanding(), () -> model.bestLanding());
            case 24 -> same("bestLandingBySets", () -> real.bestLandingBySets(), () -> model.bestLanding());
            case 25, 26 -> same("wouldLand " + a, () -> real.wouldLand(a), () -> model.wouldLand(a));
            case 27 -> same("hasLicence", () -> real.hasLicence(), () -> model.hasLicence());
            case 28 -> same("day", () -> real.day(), () -> model.day());
            case 29 -> same("season", () -> real.season(), () -> model.season());
            case 30 -> same("coins", () -> real.coins(), () -> model.coins());
            case 31 -> same("caught", () -> real.caught(), () -> model.caught());
            case 32 -> same("landed", () -> real.landed(), () -> model.landed());
            case 33 -> same("returned", () -> real.returned(), () -> model.returned());
            case 34 -> same("meanWeight", () -> real.meanWeight(), () -> model.meanWeight());
            case 35 -> same("landedShare", () -> real.landedShare(), () -> model.landedShare());
            case 36 -> same("faultPosition", () -> real.faultPosition(), () -> model.faultPosition());
            case 37 -> same("writeNote " + a, () -> real.writeNote(a), () -> model.writeNote(a));
            case 38 -> same("lineCharacter " + index, () -> real.lineCharacter(index), () -> model.lineCharacter(index));
            case 39, 40 -> same("denial", () -> real.denial(), () -> model.denial());
            case 41 -> same("denialDetail", () -> real.denialDetail(), () -> model.denialDetail());
            case 42 -> same("denialCause", () -> real.denialCause(), () -> model.denialCause());
            default -> same("undoCount", () -> real.undoCount(), () -> model.undoCount());
        }
    }
}
