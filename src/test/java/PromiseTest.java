import java.util.NoSuchElementException;

/**
 * Each promise of the document: ordinary inputs, the edges that it names, and wrong inputs. The
 * looks at the whole state before and after a call make more than the 512 calls that the document
 * speaks of; that is fair here because the class does not count its calls.
 */
public final class PromiseTest {
    private static final Class<IllegalArgumentException> BAD = IllegalArgumentException.class;
    private static final Class<NoSuchElementException> NONE = NoSuchElementException.class;
    private static final Class<IndexOutOfBoundsException> OUT = IndexOutOfBoundsException.class;
    private static final Class<UnsupportedOperationException> DENIED = UnsupportedOperationException.class;
    private static final Class<IllegalStateException> STATE = IllegalStateException.class;

    private static FootnoteFishery f;

    private PromiseTest() {
    }

    public static void main(String[] args) {
        newObject();
        notes();
        citations();
        reaching();
        indices();
        pages();
        nets();
        hauls();
        haulsThatDraw();
        bestNets();
        landings();
        landingsThatChoose();
        landingsBySeason();
        freeing();
        licences();
        passing();
        drifting();
        accounts();
        feeding();
        executing();
        commands();
        failingTexts();
        faults();
        lines();
        denials();
        undoing();
        whatCountsAsChange();
        snapshots();
        Check.end("PromiseTest");
    }

    private static void fresh() {
        f = new FootnoteFishery();
    }

    private static void eq(String what, long got, long want) {
        Check.equal(what, got, want);
    }

    /** Everything that changes can change, and the calls that tell of the rest but for denials. */
    private static String look() {
        StringBuilder text = new StringBuilder();
        text.append(f.noteCount()).append(f.netCount()).append(f.hasLicence()).append(f.day()).append(' ');
        text.append(f.coins()).append(' ').append(f.caught()).append(' ').append(f.returned()).append(' ').append(f.undoCount());
        for (int note = 0; note < f.noteCount(); note++) {
            text.append('\n').append(f.pageOf(note)).append(' ').append(f.weightOf(note)).append(f.stateOf(note));
            for (int other = 0; other < f.noteCount(); other++) {
                text.append(f.doesCite(note, other) ? 1 : 0);
            }
        }
        for (int page = 0; page < 12; page++) {
            text.append('\n').append(f.current(page)).append(' ').append(f.quota(page)).append(' ').append(f.room(page));
            for (int net = 0; net < f.netCount(); net++) {
                text.append(f.covers(net, page) ? 1 : 0);
            }
        }
        for (int net = 0; net < f.netCount(); net++) {
            text.append('\n').append(f.catchSize(net));
        }
        return text.append('\n').append(Check.answer(() -> f.faultPosition())).toString();
    }

    private static String lookAtDenial() {
        return Check.answer(() -> f.denial()) + Check.answer(() -> f.denialDetail()) + Check.answer(() -> f.denialCause());
    }

    /** The call throws exactly this, and changes nothing. */
    private static void throwsOnly(String what, Class<? extends RuntimeException> want, Check.Call call) {
        String before = look();
        String denialBefore = lookAtDenial();
        Check.thrown(what, want, call);
        Check.same(what + " leaves the state", look(), before);
        Check.same(what + " leaves the latest denial", lookAtDenial(), denialBefore);
    }

    /** The call is denied with this number and detail, and changes nothing else. */
    private static void denied(String what, int number, int detail, Check.Call call) {
        String before = look();
        Check.thrown(what, DENIED, call);
        Check.same(what + " leaves the state", look(), before);
        eq(what + ": denial", f.denial(), number);
        eq(what + ": detail", f.denialDetail(), detail);
        Check.thrown(what + ": no cause", NONE, () -> f.denialCause());
    }

    private static void feed(String text) {
        for (char sign : text.toCharArray()) {
            f.feed(sign);
        }
    }

    private static int run(String text) {
        feed(text);
        return f.execute();
    }

    private static void fault(String text, int position) {
        feed(text);
        Check.thrown("'" + text + "'", BAD, () -> f.execute());
        eq("fault of '" + text + "'", f.faultPosition(), position);
        eq("the buffer is empty after '" + text + "'", f.feed('?'), 1);
        Check.thrown("'?'", BAD, () -> f.execute());
        eq("fault of '?'", f.faultPosition(), 0);
    }

    private static void failing(String text, int index, int cause) {
        feed(text);
        String before = look();
        Check.thrown("'" + text + "'", DENIED, () -> f.execute());
        Check.same("'" + text + "' leaves the state", look(), before);
        eq("denial of '" + text + "'", f.denial(), 9);
        eq("index in '" + text + "'", f.denialDetail(), index);
        eq("cause in '" + text + "'", f.denialCause(), cause);
        eq("the buffer is empty after '" + text + "'", f.feed('?'), 1);
        Check.thrown("'?'", BAD, () -> f.execute());
    }

    // ---- promise 1

    private static void newObject() {
        fresh();
        eq("notes", f.noteCount(), 0);
        eq("nets", f.netCount(), 0);
        Check.that("no licence", !f.hasLicence());
        eq("day", f.day(), 0);
        eq("season", f.season(), 0);
        eq("coins", f.coins(), 100);
        eq("caught, landed, returned, held", f.caught() + f.landed() + f.returned() + f.heldCount(), 0);
        eq("undo count", f.undoCount(), 0);
        for (int page = 0; page < 12; page++) {
            eq("current of " + page, f.current(page), 0);
            eq("quota of " + page, f.quota(page), 20);
            eq("room of " + page, f.room(page), 20);
            eq("floating on " + page, f.floatingOn(page), 0);
        }
        eq("circles", f.circles() + f.circlesByTable(), 0);
        eq("index", f.index() + f.indexByCounts(), 0);
        eq("best landing", f.bestLanding() + f.bestLandingBySets(), 0);
        Check.thrown("denial", NONE, () -> f.denial());
        Check.thrown("denialDetail", NONE, () -> f.denialDetail());
        Check.thrown("denialCause", NONE, () -> f.denialCause());
        Check.thrown("faultPosition", NONE, () -> f.faultPosition());
        Check.thrown("lineCharacter", OUT, () -> f.lineCharacter(0));
        Check.thrown("undo", STATE, () -> f.undo());
        Check.thrown("restoreSnapshot", STATE, () -> f.restoreSnapshot());
        FootnoteFishery other = new FootnoteFishery();
        other.addNote(0, 1);
        eq("another object is apart", f.noteCount(), 0);
    }

    // ---- promises 2, 5 to 8

    private static void notes() {
        fresh();
        int[][] wrong = {{-1, 1}, {12, 1}, {0, 0}, {0, 31}, {0, -5}, {Integer.MIN_VALUE, 1}, {0, Integer.MAX_VALUE}};
        for (int[] row : wrong) {
            throwsOnly("addNote(" + row[0] + ", " + row[1] + ")", BAD, () -> f.addNote(row[0], row[1]));
        }
        for (int note = 0; note < 10; note++) {
            eq("number", f.addNote(note == 0 ? 11 : note, note == 0 ? 30 : note), note);
            eq("count", f.noteCount(), note + 1);
        }
        eq("page of 0", f.pageOf(0), 11);
        eq("weight of 0", f.weightOf(0), 30);
        eq("page of 9", f.pageOf(9), 9);
        eq("weight of 1", f.weightOf(1), 1);
        eq("state of 9", f.stateOf(9), 'f');
        denied("the eleventh note", 1, 10, () -> f.addNote(0, 1));
        throwsOnly("a bad eleventh note", BAD, () -> f.addNote(12, 1));
        for (int note : new int[] {-1, 10, Integer.MIN_VALUE, Integer.MAX_VALUE}) {
            throwsOnly("pageOf", NONE, () -> f.pageOf(note));
            throwsOnly("weightOf", NONE, () -> f.weightOf(note));
            throwsOnly("stateOf", NONE, () -> f.stateOf(note));
        }
    }

    // ---- promises 3, 4, 9, 10

    private static void citations() {
        fresh();
        throwsOnly("cite without notes", NONE, () -> f.cite(0, 0));
        throwsOnly("doesCite without notes", NONE, () -> f.doesCite(0, 0));
        f.addNote(0, 1);
        f.addNote(1, 1);
        f.addNote(2, 1);
        eq("first citation", f.cite(0, 2), 1);
        eq("second citation", f.cite(0, 1), 2);
        eq("citation of another note", f.cite(1, 2), 1);
        eq("cited by", f.citedBy(2), 2);
        eq("cited by", f.citedBy(1), 1);
        eq("cited by", f.citedBy(0), 0);
        Check.that("cites", f.doesCite(0, 2) && f.doesCite(0, 1) && f.doesCite(1, 2));
        Check.that("does not cite", !f.doesCite(2, 0) && !f.doesCite(0, 0) && !f.doesCite(2, 2) && !f.doesCite(1, 0));
        denied("cite again", 5, 2, () -> f.cite(0, 2));
        denied("uncite what is not cited", 5, 1, () -> f.uncite(1, 0));
        denied("uncite of a note without citations", 5, 0, () -> f.uncite(2, 1));
        throwsOnly("cite itself", BAD, () -> f.cite(1, 1));
        throwsOnly("uncite itself", BAD, () -> f.uncite(1, 1));
        for (int wrong : new int[] {-1, 3, 32, Integer.MIN_VALUE, Integer.MAX_VALUE}) {
            throwsOnly("cite", NONE, () -> f.cite(wrong, 0));
            throwsOnly("cite", NONE, () -> f.cite(0, wrong));
            throwsOnly("cite, both the same", NONE, () -> f.cite(wrong, wrong));
            throwsOnly("uncite", NONE, () -> f.uncite(wrong, 0));
            throwsOnly("uncite", NONE, () -> f.uncite(0, wrong));
            throwsOnly("uncite, both the same", NONE, () -> f.uncite(wrong, wrong));
            throwsOnly("doesCite", NONE, () -> f.doesCite(wrong, 0));
            throwsOnly("doesCite", NONE, () -> f.doesCite(0, wrong));
            throwsOnly("citedBy", NONE, () -> f.citedBy(wrong));
        }
        eq("uncite", f.uncite(0, 2), 1);
        Check.that("no more", !f.doesCite(0, 2) && f.doesCite(0, 1));
        eq("uncite", f.uncite(0, 1), 0);
        eq("cite again", f.cite(0, 2), 1);
    }

    // ---- promises 11 to 14

    private static void reaching() {
        fresh();
        for (int note = 0; note < 10; note++) {
            f.addNote(0, 1);
        }
        // A circle of 0, 1 and 2, a bridge to the circle of 4 and 5, and a tail 6 > 7.
        int[][] arcs = {{0, 1}, {1, 2}, {2, 0}, {2, 3}, {3, 4}, {4, 5}, {5, 4}, {6, 7}, {5, 7}};
        for (int[] arc : arcs) {
            f.cite(arc[0], arc[1]);
        }
        Check.that("reaches", f.reaches(0, 0) && f.reaches(0, 7) && f.reaches(2, 1) && f.reaches(5, 5) && f.reaches(6, 7));
        Check.that("does not reach", !f.reaches(3, 3) && !f.reaches(4, 3) && !f.reaches(7, 6) && !f.reaches(8, 8) && !f.reaches(0, 6));
        circlesAre(2);
        int[] sizes = {3, 3, 3, 1, 2, 2, 1, 1, 1, 1};
        for (int note = 0; note < 10; note++) {
            eq("circle size of " + note, f.circleSize(note), sizes[note]);
        }
        f.cite(7, 0);
        circlesAre(1);
        eq("one circle", f.circleSize(3), 7);
        eq("outside it", f.circleSize(6), 1);
        f.uncite(2, 3);
        circlesAre(2);
        f.uncite(1, 2);
        circlesAre(1);
        f.uncite(4, 5);
        circlesAre(0);
        for (int wrong : new int[] {-1, 10, Integer.MIN_VALUE, Integer.MAX_VALUE}) {
            throwsOnly("reaches", NONE, () -> f.reaches(wrong, 0));
            throwsOnly("reaches", NONE, () -> f.reaches(0, wrong));
            throwsOnly("circleSize", NONE, () -> f.circleSize(wrong));
        }
        ring();
    }

    private static void ring() {
        fresh();
        for (int note = 0; note < 10; note++) {
            f.addNote(0, 1);
        }
        for (int note = 0; note < 10; note++) {
            f.cite(note, (note + 9) % 10);
        }
        circlesAre(1);
        eq("the whole ring", f.circleSize(4), 10);
        Check.that("the longest row", f.reaches(0, 1) && f.reaches(5, 5));
        f.uncite(0, 9);
        circlesAre(0);
        eq("no circle", f.circleSize(4), 1);
        Check.that("one way", f.reaches(9, 0) && !f.reaches(0, 9));
        for (int note = 0; note < 10; note += 2) {
            f.cite(note, note + 1);
        }
        circlesAre(5);
    }

    private static void circlesAre(int count) {
        eq("circles", f.circles(), count);
        eq("circles by table", f.circlesByTable(), count);
    }

    // ---- promises 15 to 17

    private static void indices() {
        fresh();
        int[] weights = {5, 7, 7, 1, 9};
        for (int weight : weights) {
            f.addNote(0, weight);
        }
        indexIs(0);
        ranksAre(4, 1, 2, 0, 3);
        f.cite(0, 3);
        indexIs(1);
        ranksAre(3, 4, 1, 2, 0);
        f.cite(1, 3);
        indexIs(1);
        f.cite(0, 2);
        ranksAre(3, 2, 4, 1, 0);
        f.cite(3, 2);
        indexIs(2);
        ranksAre(2, 3, 4, 1, 0);
        f.cite(2, 3);
        ranksAre(3, 2, 4, 1, 0);
        f.cite(1, 2);
        indexIs(2);
        f.cite(0, 4);
        f.cite(1, 4);
        indexIs(2);
        f.cite(3, 4);
        indexIs(3);
        ranksAre(4, 2, 3, 1, 0);
        f.cite(3, 0);
        f.cite(2, 0);
        f.cite(4, 0);
        f.cite(1, 0);
        ranksAre(0, 4, 2, 3, 1);
        indexIs(3);
        throwsOnly("rank -1", NONE, () -> f.noteByCitations(-1));
        throwsOnly("rank 5", NONE, () -> f.noteByCitations(5));
        throwsOnly("a low rank", NONE, () -> f.noteByCitations(Integer.MIN_VALUE));
        throwsOnly("a high rank", NONE, () -> f.noteByCitations(Integer.MAX_VALUE));
        indexOfAll();
    }

    private static void indexOfAll() {
        fresh();
        throwsOnly("rank without notes", NONE, () -> f.noteByCitations(0));
        for (int note = 0; note < 10; note++) {
            f.addNote(0, 1);
        }
        for (int note = 0; note < 10; note++) {
            for (int other = 0; other < 10; other++) {
                if (note != other) {
                    f.cite(note, other);
                }
            }
        }
        indexIs(9);
        ranksAre(0, 1, 2, 3, 4, 5, 6, 7, 8, 9);
        eq("cited by all others", f.citedBy(4), 9);
        circlesAre(1);
    }

    private static void indexIs(int index) {
        eq("index", f.index(), index);
        eq("index by counts", f.indexByCounts(), index);
    }

    private static void ranksAre(int... notes) {
        for (int rank = 0; rank < notes.length; rank++) {
            eq("note at rank " + rank, f.noteByCitations(rank), notes[rank]);
        }
    }

    // ---- promises 18 to 23

    private static void pages() {
        fresh();
        eq("current before", f.setCurrent(0, 1), 0);
        eq("current before", f.setCurrent(0, -1), 1);
        eq("current before", f.setCurrent(0, 0), -1);
        eq("current before", f.setCurrent(11, -1), 0);
        eq("current", f.current(11), -1);
        eq("current of another page", f.current(10), 0);
        eq("quota before", f.setQuota(0, 0), 20);
        eq("quota before", f.setQuota(0, 99), 0);
        eq("quota before", f.setQuota(11, 5), 20);
        eq("quota", f.quota(0), 99);
        eq("quota", f.quota(11), 5);
        eq("room", f.room(0), 99);
        for (int page : new int[] {-1, 12, Integer.MIN_VALUE, Integer.MAX_VALUE}) {
            throwsOnly("setCurrent", BAD, () -> f.setCurrent(page, 0));
            throwsOnly("setQuota", BAD, () -> f.setQuota(page, 1));
            throwsOnly("current", BAD, () -> f.current(page));
            throwsOnly("quota", BAD, () -> f.quota(page));
            throwsOnly("room", BAD, () -> f.room(page));
            throwsOnly("floatingOn", BAD, () -> f.floatingOn(page));
        }
        for (int wrong : new int[] {-2, 2, Integer.MIN_VALUE, Integer.MAX_VALUE}) {
            throwsOnly("setCurrent", BAD, () -> f.setCurrent(0, wrong));
        }
        for (int wrong : new int[] {-1, 100, Integer.MIN_VALUE, Integer.MAX_VALUE}) {
            throwsOnly("setQuota", BAD, () -> f.setQuota(0, wrong));
        }
        f.addNote(3, 12);
        f.addNote(3, 11);
        f.addNote(4, 10);
        eq("floating on 3", f.floatingOn(3), 2);
        eq("floating on 4", f.floatingOn(4), 1);
        eq("floating on 5", f.floatingOn(5), 0);
        f.addNet(3, 1, 12);
        f.buyLicence();
        f.haul(0);
        eq("floating on 3 after a haul", f.floatingOn(3), 1);
    }

    // ---- promises 24, 25, 27, 28

    private static void nets() {
        fresh();
        int[][] wrong = {{-1, 1, 1}, {12, 1, 1}, {0, 0, 1}, {0, 13, 1}, {0, 1, 0}, {0, 1, 31},
            {Integer.MIN_VALUE, 1, 1}, {0, Integer.MAX_VALUE, 1}, {0, 1, Integer.MIN_VALUE}};
        for (int[] row : wrong) {
            throwsOnly("addNet", BAD, () -> f.addNet(row[0], row[1], row[2]));
        }
        eq("net", f.addNet(10, 4, 30), 0);
        eq("net", f.addNet(3, 1, 1), 1);
        eq("net", f.addNet(5, 12, 1), 2);
        eq("net", f.addNet(0, 11, 1), 3);
        eq("net", f.addNet(11, 2, 1), 4);
        eq("nets", f.netCount(), 5);
        denied("the sixth net", 1, 5, () -> f.addNet(0, 1, 1));
        throwsOnly("a bad sixth net", BAD, () -> f.addNet(0, 0, 1));
        coversOnly(0, "110000000011");
        coversOnly(1, "000100000000");
        coversOnly(2, "111111111111");
        coversOnly(3, "111111111110");
        coversOnly(4, "100000000001");
        for (int net : new int[] {-1, 5, Integer.MIN_VALUE, Integer.MAX_VALUE}) {
            throwsOnly("covers", OUT, () -> f.covers(net, 0));
            throwsOnly("covers of a bad page", OUT, () -> f.covers(net, 12));
            throwsOnly("removeNet", OUT, () -> f.removeNet(net));
        }
        for (int page : new int[] {-1, 12, Integer.MIN_VALUE, Integer.MAX_VALUE}) {
            throwsOnly("covers", BAD, () -> f.covers(0, page));
        }
        eq("nets afterwards", f.removeNet(1), 4);
        coversOnly(0, "110000000011");
        coversOnly(1, "111111111111");
        coversOnly(2, "111111111110");
        coversOnly(3, "100000000001");
        throwsOnly("the last is gone", OUT, () -> f.covers(4, 0));
        eq("nets afterwards", f.removeNet(3), 3);
        eq("a new net", f.addNet(7, 1, 1), 3);
        coversOnly(3, "000000010000");
        f.removeNet(0);
        f.removeNet(0);
        f.removeNet(0);
        eq("no nets", f.removeNet(0), 0);
        throwsOnly("removeNet without nets", OUT, () -> f.removeNet(0));
        meshesMoveAlong();
    }

    private static void meshesMoveAlong() {
        fresh();
        for (int mesh = 1; mesh <= 5; mesh++) {
            f.addNet(0, 1, mesh);
            f.addNote(0, mesh);
        }
        f.removeNet(1);
        int[] catches = {5, 3, 2, 1};
        for (int net = 0; net < 4; net++) {
            eq("catch of " + net, f.catchSize(net), catches[net]);
        }
    }

    private static void coversOnly(int net, String wanted) {
        for (int page = 0; page < 12; page++) {
            Check.that("net " + net + " and page " + page, f.covers(net, page) == (wanted.charAt(page) == '1'));
        }
    }

    // ---- promises 26 and 29

    private static void hauls() {
        fresh();
        throwsOnly("haul without nets", OUT, () -> f.haul(0));
        throwsOnly("catchSize without nets", OUT, () -> f.catchSize(0));
        f.addNet(0, 2, 9);
        f.addNet(0, 2, 10);
        f.addNote(0, 10);
        f.addNote(1, 9);
        f.addNote(2, 30);
        eq("catch without a licence", f.catchSize(0), 2);
        eq("catch without a licence", f.catchSize(1), 1);
        denied("no licence ahead of the mesh", 2, 0, () -> f.haul(0));
        denied("no licence", 2, 0, () -> f.haul(1));
        throwsOnly("no net ahead of no licence", OUT, () -> f.haul(2));
        throwsOnly("catchSize", OUT, () -> f.catchSize(-1));
        throwsOnly("catchSize", OUT, () -> f.catchSize(2));
        throwsOnly("haul", OUT, () -> f.haul(Integer.MIN_VALUE));
        throwsOnly("haul", OUT, () -> f.haul(Integer.MAX_VALUE));
        f.buyLicence();
        denied("the mesh is too small", 3, 9, () -> f.haul(0));
        eq("catch with too small a mesh", f.catchSize(0), 2);
        throwsOnly("no net with a licence", OUT, () -> f.haul(2));
        eq("haul", f.haul(1), 1);
        eq("held", f.stateOf(0), 'h');
        eq("it keeps its page", f.pageOf(0), 0);
        eq("too light", f.stateOf(1), 'f');
        eq("not covered", f.stateOf(2), 'f');
        eq("an empty haul", f.haul(1), 0);
        eq("caught", f.caught(), 1);
        f.pass(30);
        denied("no licence in the season 1", 2, 1, () -> f.haul(0));
        f.buyLicence();
        eq("a small mesh in the season 1", f.haul(0), 1);
        eq("caught", f.caught(), 2);
        f.pass(30);
        denied("no licence in the season 2", 2, 2, () -> f.haul(0));
        f.pass(30);
        denied("no licence in the season 3", 2, 3, () -> f.haul(0));
    }

    private static void haulsThatDraw() {
        fresh();
        f.addNet(11, 3, 20);
        // 9 is heavy and draws 8, 8 draws 7 and so on; 3 is out of reach, so 2 is drawn by 9 alone.
        int[] pages = {11, 0, 1, 2, 0, 11, 0, 1, 0, 11};
        for (int note = 0; note < 10; note++) {
            f.addNote(pages[note], note == 9 ? 20 : 19);
        }
        for (int note = 9; note > 0; note--) {
            f.cite(note, note - 1);
        }
        eq("drawn along till 4", f.catchSize(0), 6);
        f.cite(9, 2);
        eq("and 2, 1 and 0", f.catchSize(0), 9);
        f.uncite(2, 1);
        eq("and 2", f.catchSize(0), 7);
        f.buyLicence();
        eq("haul", f.haul(0), 7);
        Check.same("states", states(), "ffhfhhhhhh");
        eq("caught", f.caught(), 7);
        f.cite(9, 0);
        eq("a held note draws nothing", f.catchSize(0), 0);
        eq("a held note draws nothing", f.haul(0), 0);
        f.free(9);
        eq("9 draws only what floats", f.catchSize(0), 2);
        eq("9 draws only what floats", f.haul(0), 2);
        Check.same("states", states(), "hfhfhhhhhh");
        eq("caught", f.caught(), 9);
    }

    private static String states() {
        StringBuilder text = new StringBuilder();
        for (int note = 0; note < f.noteCount(); note++) {
            text.append(f.stateOf(note));
        }
        return text.toString();
    }

    // ---- promise 30

    private static void bestNets() {
        fresh();
        throwsOnly("bestNet without nets", NONE, () -> f.bestNet());
        f.addNet(0, 1, 10);
        f.addNet(1, 1, 1);
        f.addNet(1, 2, 1);
        throwsOnly("bestNet without notes", NONE, () -> f.bestNet());
        f.addNote(5, 30);
        throwsOnly("bestNet without a catch", NONE, () -> f.bestNet());
        f.addNote(1, 1);
        eq("the least weight", f.bestNet(), 1);
        f.undo();
        f.addNote(1, 9);
        eq("the lower of two", f.bestNet(), 1);
        f.addNote(0, 9);
        eq("too light for the first", f.bestNet(), 1);
        f.addNote(2, 1);
        eq("the heavier one", f.bestNet(), 2);
        f.addNote(0, 10);
        eq("as heavy, but lower", f.bestNet(), 0);
        f.addNote(1, 1);
        eq("more weight, not more notes", f.bestNet(), 2);
        f.cite(4, 2);
        eq("the drawn note counts", f.bestNet(), 0);
        f.buyLicence();
        f.haul(0);
        eq("held notes don't count", f.bestNet(), 2);
    }

    // ---- promises 31, 33 to 36

    private static void landings() {
        fresh();
        denied("land without notes", 7, 0, () -> f.land());
        f.addNote(4, 12);
        f.addNote(4, 9);
        f.addNote(5, 30);
        f.addNote(4, 11);
        denied("land an empty hold", 7, 4, () -> f.land());
        throwsOnly("wouldLand", NONE, () -> f.wouldLand(-1));
        throwsOnly("wouldLand", NONE, () -> f.wouldLand(4));
        Check.that("a floating note would not land", !f.wouldLand(1));
        f.addNet(4, 2, 10);
        f.cite(0, 1);
        f.buyLicence();
        eq("haul", f.haul(0), 4);
        eq("held", f.heldCount(), 4);
        landingIs(20, "0101");
        f.setQuota(4, 21);
        landingIs(21, "1100");
        f.setQuota(4, 32);
        landingIs(32, "1101");
        f.setQuota(5, 29);
        landingIs(32, "1101");
        f.setQuota(5, 30);
        landingIs(62, "1111");
        f.setQuota(5, 99);
        landingIs(62, "1111");
        f.setQuota(4, 8);
        landingIs(30, "0010");
        f.setQuota(4, 10);
        eq("land", f.land(), 39);
        Check.same("states", states(), "fllf");
        eq("coins", f.coins(), 80 + 78);
        eq("landed", f.landed(), 2);
        eq("returned", f.returned(), 2);
        eq("caught", f.caught(), 4);
        eq("held", f.heldCount(), 0);
        eq("room", f.room(4), 1);
        eq("room", f.room(5), 69);
        eq("quota", f.quota(4), 10);
        landingIs(0, "0000");
        denied("land again", 7, 2, () -> f.land());
        f.setQuota(4, 8);
        eq("room is at least 0", f.room(4), 0);
        eq("haul again", f.haul(0), 2);
        eq("nothing fits, but it is landed", f.land(), 0);
        eq("returned", f.returned(), 4);
        eq("coins", f.coins(), 158);
    }

    private static void landingIs(int weight, String wanted) {
        eq("best landing", f.bestLanding(), weight);
        eq("best landing by sets", f.bestLandingBySets(), weight);
        for (int note = 0; note < wanted.length(); note++) {
            Check.that("note " + note + " in a landing of " + weight, f.wouldLand(note) == (wanted.charAt(note) == '1'));
        }
    }

    private static void landingsThatChoose() {
        chooses("the lowest number", 10, "1001", 7, 5, 5, 3);
        chooses("the lowest number of those in one alone", 10, "1100", 4, 6, 6, 6);
        chooses("of three sets", 12, "1100", 6, 6, 6, 6);
        chooses("not the most notes", 9, "100", 9, 4, 5);
        chooses("the low one with a high one", 8, "10001", 1, 2, 6, 2, 7);
        chooses("the greatest sum ahead of the order", 10, "0110", 9, 5, 5, 2);
        chooses("the only note", 5, "1", 5);
        chooses("room for no note", 2, "000", 3, 4, 5);
        chooses("no room at all", 0, "0", 1);
        chooses("all ten", 99, "1111111111", 1, 2, 3, 4, 5, 6, 7, 8, 9, 10);
        chooses("ten equal ones", 35, "1110000000", 10, 10, 10, 10, 10, 10, 10, 10, 10, 10);
        chooses("a full room of 99", 99, "1110000001", 30, 30, 30, 30, 30, 30, 30, 30, 30, 9);
    }

    /** Lands notes of the given weights on the page 7, whose quota is the room. */
    private static void chooses(String what, int room, String wanted, int... weights) {
        fresh();
        f.pass(30);
        f.buyLicence();
        f.setQuota(7, room);
        for (int weight : weights) {
            f.addNote(7, weight);
        }
        f.addNet(7, 1, 1);
        f.haul(0);
        int sum = 0;
        for (int note = 0; note < weights.length; note++) {
            sum += wanted.charAt(note) == '1' ? weights[note] : 0;
        }
        landingIs(sum, wanted);
        eq(what, f.land(), sum);
        Check.same(what, states(), wanted.replace('1', 'l').replace('0', 'f'));
        eq(what + ": coins", f.coins(), 70 + 2 * sum);
    }

    private static void landingsBySeason() {
        fresh();
        f.setQuota(0, 15);
        f.addNote(0, 14);
        f.addNote(0, 15);
        f.addNote(0, 16);
        f.addNet(0, 1, 10);
        f.buyLicence();
        f.haul(0);
        eq("land", f.land(), 15);
        eq("room", f.room(0), 0);
        f.pass(29);
        eq("the same season", f.room(0), 0);
        f.pass(1);
        eq("another season", f.room(0), 15);
        f.pass(30);
        eq("each quota counts twice", f.room(0), 30);
        eq("but not as it was set", f.quota(0), 15);
        f.buyLicence();
        f.haul(0);
        landingIs(30, "101");
        eq("land", f.land(), 30);
        eq("room", f.room(0), 0);
        f.setQuota(0, 99);
        eq("twice the quota less what was landed", f.room(0), 168);
        f.pass(30);
        eq("once in the season 3", f.room(0), 99);
        f.pass(30);
        eq("once in the season 0", f.room(0), 99);
        greatestRoom();
    }

    private static void greatestRoom() {
        fresh();
        f.pass(40);
        f.pass(20);
        f.setQuota(9, 99);
        eq("the greatest room", f.room(9), 198);
        for (int note = 0; note < 10; note++) {
            f.addNote(9, note == 9 ? 18 : 30);
        }
        f.addNet(9, 1, 18);
        f.buyLicence();
        f.haul(0);
        landingIs(198, "1111110001");
        eq("land", f.land(), 198);
        eq("room", f.room(9), 0);
        eq("coins", f.coins(), 60 + 396);
    }

    // ---- promise 32

    private static void freeing() {
        fresh();
        throwsOnly("free without notes", NONE, () -> f.free(0));
        f.addNote(0, 20);
        f.addNote(0, 20);
        f.addNote(3, 20);
        f.addNet(0, 1, 20);
        f.buyLicence();
        f.haul(0);
        throwsOnly("free", NONE, () -> f.free(-1));
        throwsOnly("free", NONE, () -> f.free(3));
        throwsOnly("free", NONE, () -> f.free(Integer.MIN_VALUE));
        throwsOnly("free", NONE, () -> f.free(Integer.MAX_VALUE));
        denied("free a floating note", 4, 2, () -> f.free(2));
        eq("free", f.free(1), 1);
        eq("it floats", f.stateOf(1), 'f');
        eq("on its page", f.pageOf(1), 0);
        eq("returned", f.returned(), 1);
        denied("free it again", 4, 1, () -> f.free(1));
        f.land();
        denied("free a landed note", 4, 0, () -> f.free(0));
        f.haul(0);
        eq("free the last", f.free(1), 0);
        eq("returned", f.returned(), 2);
        eq("caught", f.caught(), 3);
    }

    // ---- promises 37 and 39

    private static void licences() {
        fresh();
        int coins = 100;
        int[] prices = {20, 30, 40, 10};
        for (int season = 0; season < 4; season++) {
            eq("coins", f.buyLicence(), coins - prices[season]);
            Check.that("a licence", f.hasLicence());
            denied("a second licence", 8, season, () -> f.buyLicence());
            coins -= prices[season];
            eq("coins", f.coins(), coins);
            f.pass(29);
            Check.that("to the last day", f.hasLicence());
            f.pass(1);
            Check.that("no more", !f.hasLicence());
        }
        eq("no coins", f.coins(), 0);
        denied("no coins", 6, 20, () -> f.buyLicence());
        f.pass(30);
        denied("no coins", 6, 30, () -> f.buyLicence());
        f.pass(30);
        denied("no coins", 6, 40, () -> f.buyLicence());
        f.pass(30);
        denied("no coins", 6, 10, () -> f.buyLicence());
        fewCoins();
    }

    private static void fewCoins() {
        fresh();
        f.pass(30);
        f.buyLicence();
        f.pass(30);
        f.buyLicence();
        f.pass(30);
        f.buyLicence();
        f.addNote(0, 1);
        f.addNote(0, 2);
        f.addNet(0, 1, 1);
        denied("a licence ahead of too few coins", 8, 3, () -> f.buyLicence());
        f.haul(0);
        f.land();
        eq("coins", f.coins(), 26);
        f.pass(30);
        eq("licence", f.buyLicence(), 6);
        denied("a licence ahead of too few coins", 8, 0, () -> f.buyLicence());
        f.pass(30);
        denied("too few coins", 6, 24, () -> f.buyLicence());
    }

    // ---- promises 38, 40, 41

    private static void passing() {
        fresh();
        for (int days : new int[] {0, -1, 41, Integer.MIN_VALUE, Integer.MAX_VALUE}) {
            throwsOnly("pass", BAD, () -> f.pass(days));
        }
        eq("no notes", f.pass(29), 0);
        eq("day", f.day(), 29);
        eq("season", f.season(), 0);
        f.pass(1);
        eq("season", f.season(), 1);
        f.pass(40);
        eq("day", f.day(), 70);
        eq("season", f.season(), 2);
        f.pass(19);
        eq("season", f.season(), 2);
        f.pass(1);
        eq("season", f.season(), 3);
        f.pass(29);
        eq("season", f.season(), 3);
        f.pass(1);
        eq("day", f.day(), 120);
        eq("season", f.season(), 0);
        f.pass(40);
        eq("season", f.season(), 1);
    }

    private static void drifting() {
        fresh();
        f.addNote(11, 10);
        f.addNote(0, 10);
        f.addNote(5, 10);
        f.addNote(6, 10);
        f.setCurrent(11, 1);
        f.setCurrent(0, -1);
        f.setCurrent(5, 1);
        eq("moves", f.pass(1), 3);
        eq("to the next page", f.pageOf(0), 0);
        eq("to the page before", f.pageOf(1), 11);
        eq("once a day", f.pageOf(2), 6);
        eq("without a current", f.pageOf(3), 6);
        eq("floating on 6", f.floatingOn(6), 2);
        eq("moves", f.pass(4), 8);
        eq("back and forth", f.pageOf(0), 0);
        for (int page = 0; page < 12; page++) {
            f.setCurrent(page, 1);
        }
        f.addNet(6, 1, 10);
        f.buyLicence();
        f.haul(0);
        eq("held notes stay", f.pass(2), 4);
        eq("held", f.pageOf(2), 6);
        f.setQuota(6, 10);
        f.land();
        eq("landed notes stay", f.pass(12), 36);
        eq("landed", f.pageOf(2), 6);
        eq("a whole circle", f.pageOf(0), 2);
        eq("returned", f.pageOf(3), 6);
        f.pass(40);
        f.pass(29);
        eq("day", f.day(), 88);
        eq("moves on the last day of the season 2 alone", f.pass(31), 3);
        eq("season", f.season(), 3);
        eq("moves on the first days of the season 0", f.pass(9), 27);
        stillSeason();
    }

    private static void stillSeason() {
        fresh();
        f.addNote(0, 1);
        for (int page = 0; page < 12; page++) {
            f.setCurrent(page, -1);
        }
        f.pass(40);
        eq("moves till the day 80", f.pass(40), 40);
        eq("none from the day 90 to the day 119", f.pass(39), 9);
        eq("page of the day 89", f.pageOf(0), 7);
        eq("one on the day 120", f.pass(1), 1);
        eq("page", f.pageOf(0), 6);
    }

    // ---- promises 42 to 47

    private static void accounts() {
        fresh();
        Check.thrown("meanWeight", ArithmeticException.class, () -> f.meanWeight());
        Check.thrown("landedShare", ArithmeticException.class, () -> f.landedShare());
        f.addNote(0, 10);
        f.addNote(0, 11);
        f.addNote(1, 1);
        Check.that("mean weight", f.meanWeight() == 22.0 / 3.0);
        Check.that("landed share", f.landedShare() == 0.0f);
        f.addNet(0, 1, 10);
        f.buyLicence();
        f.haul(0);
        Check.that("mean weight of one", f.meanWeight() == 1.0);
        f.land();
        eq("coins", f.coins(), 102);
        Check.that("landed share", f.landedShare() == 1.0f / 3.0f);
        Check.that("mean weight", f.meanWeight() == 5.5);
        Check.that("mean of the returned", f.stateOf(0) == 'f');
        f.haul(0);
        eq("caught", f.caught(), 3);
        f.free(0);
        eq("returned", f.returned(), 2);
        eq("landed", f.landed(), 1);
        f.setQuota(0, 99);
        f.haul(0);
        f.land();
        Check.that("landed share", f.landedShare() == 2.0f / 3.0f);
        f.addNet(1, 1, 1);
        f.pass(30);
        f.buyLicence();
        f.haul(1);
        Check.thrown("meanWeight with a hold", ArithmeticException.class, () -> f.meanWeight());
        f.land();
        Check.that("all are landed", f.landedShare() == 1.0f);
        Check.thrown("meanWeight of landed notes", ArithmeticException.class, () -> f.meanWeight());
        eq("caught is the sum", f.caught(), f.landed() + f.returned() + f.heldCount());
        eq("caught", f.caught(), 5);
    }

    // ---- promise 48

    private static void feeding() {
        fresh();
        for (int i = 1; i <= 60; i++) {
            eq("length", f.feed(i == 3 ? '\u2026' : i == 4 ? (char) 0 : 'x'), i);
        }
        throwsOnly("the buffer is full", STATE, () -> f.feed('x'));
        throwsOnly("the buffer is full", STATE, () -> f.feed(';'));
        Check.thrown("execute", BAD, () -> f.execute());
        eq("the buffer is empty", f.feed('l'), 1);
        eq("changes can't be undone", f.undoCount(), 0);
    }

    // ---- promise 49

    private static void executing() {
        fresh();
        eq("commands", run("note 0 12;note 1 09;note 01 8;cite 0>1;net 0+3 10;licence"), 6);
        eq("notes", f.noteCount(), 3);
        eq("weight", f.weightOf(1), 9);
        eq("page", f.pageOf(2), 1);
        Check.that("cites", f.doesCite(0, 1));
        eq("nets", f.netCount(), 1);
        eq("coins", f.coins(), 80);
        eq("one change", f.undoCount(), 1);
        eq("commands", run("haul 0;free 1"), 2);
        Check.same("states", states(), "hff");
        eq("commands", run("land"), 1);
        Check.same("states", states(), "lff");
        eq("changes", f.undoCount(), 3);
        eq("undo a text", f.undo(), 2);
        eq("undo a text", f.undo(), 1);
        Check.same("states", states(), "fff");
        eq("undo a text", f.undo(), 0);
        eq("notes", f.noteCount(), 0);
        // Twelve commands of the shortest kind fill the buffer.
        feed("land;land;land;land;land;land;land;land;land;land;land;land");
        eq("59 characters", f.feed(';'), 60);
        Check.thrown("it ends too early", BAD, () -> f.execute());
        eq("fault", f.faultPosition(), 60);
        failing("land;land;land;land;land;land;land;land;land;land;land;land", 0, 7);
        eq("eight days", run("wait 1;wait 1;wait 1;wait 1;wait 1;wait 1;wait 1;wait 1"), 8);
        eq("day", f.day(), 8);
    }

    private static void commands() {
        fresh();
        run("note 11 30;note 2 2;cite 1>0;cite 0>1");
        Check.that("cite", f.doesCite(1, 0) && f.doesCite(0, 1));
        run("drop 1>0");
        Check.that("drop", !f.doesCite(1, 0) && f.doesCite(0, 1));
        run("current 11=-1;current 02=1;current 3=0;current 4=-0");
        eq("current", f.current(11), -1);
        eq("current", f.current(2), 1);
        run("quota 11=99;quota 2=0;quota 03=07");
        eq("quota", f.quota(11), 99);
        eq("quota", f.quota(2), 0);
        eq("quota", f.quota(3), 7);
        run("net 5+12 10;net 11+1 30;net 0+01 01");
        eq("nets", f.netCount(), 3);
        coversOnly(1, "000000000001");
        run("cut 0");
        eq("nets", f.netCount(), 2);
        coversOnly(0, "000000000001");
        run("licence;haul 0");
        Check.same("states", states(), "hf");
        run("free 0;haul 0;land");
        Check.same("states", states(), "lf");
        eq("coins", f.coins(), 140);
        eq("returned", f.returned(), 1);
        run("wait 3;wait 40");
        eq("day", f.day(), 43);
        eq("drift", f.pageOf(1), 3);
    }

    private static void failingTexts() {
        fresh();
        failing("land", 0, 7);
        failing("note 12 1", 0, 10);
        failing("note 1 31", 0, 10);
        failing("note 1 0", 0, 10);
        failing("note 1 1;cite 0>1", 1, 10);
        failing("note 1 1;cite 0>0", 1, 10);
        failing("note 1 1;note 1 1;drop 0>1", 2, 5);
        failing("note 1 1;note 1 1;cite 0>1;cite 0>1", 3, 5);
        failing("current 12=0", 0, 10);
        failing("current 0=2", 0, 10);
        failing("current 0=-2", 0, 10);
        failing("quota 12=0", 0, 10);
        failing("net 12+1 1", 0, 10);
        failing("net 0+13 1", 0, 10);
        failing("net 0+1 31", 0, 10);
        failing("cut 0", 0, 10);
        failing("haul 0", 0, 10);
        failing("net 0+1 9;haul 0", 1, 2);
        failing("net 0+1 9;licence;haul 0", 2, 3);
        failing("wait 0", 0, 10);
        failing("wait 1;wait 41", 1, 10);
        failing("licence;licence", 1, 8);
        failing("free 0", 0, 10);
        failing("note 0 1;free 0", 1, 4);
        eq("nothing to undo", f.undoCount(), 0);
        f.pass(30);
        f.pass(30);
        run("licence;wait 30;licence;wait 30;licence;wait 30");
        failing("licence;wait 30;licence", 2, 6);
        limitsInTexts();
    }

    private static void limitsInTexts() {
        fresh();
        for (int i = 0; i < 9; i++) {
            f.addNote(0, 1);
        }
        for (int i = 0; i < 4; i++) {
            f.addNet(0, 1, 1);
        }
        failing("note 0 1;note 0 1", 1, 1);
        failing("net 0+1 1;net 0+1 1", 1, 1);
        eq("notes", f.noteCount(), 9);
        eq("nets", f.netCount(), 4);
    }

    // ---- promises 49 and 50

    private static void faults() {
        fresh();
        Check.thrown("an empty text", BAD, () -> f.execute());
        eq("fault", f.faultPosition(), 0);
        fault("x", 0);
        fault(";", 0);
        fault(" land", 0);
        fault("l", 1);
        fault("la", 2);
        fault("lx", 1);
        fault("lix", 2);
        fault("lai", 2);
        fault("Land", 0);
        fault("land ", 4);
        fault("land;", 5);
        fault("land;;", 5);
        fault("land; land", 5);
        fault("landland", 4);
        fault("licencx", 6);
        fault("n", 1);
        fault("no", 2);
        fault("ne", 2);
        fault("nu", 1);
        fault("note", 4);
        fault("note ", 5);
        fault("note  1", 5);
        fault("note x", 5);
        fault("note 1", 6);
        fault("note 12", 7);
        fault("note 123", 7);
        fault("note 1;", 6);
        fault("note -1 1", 5);
        fault("note 1 ", 7);
        fault("note 1 123", 9);
        fault("note 1 1 ", 8);
        fault("note 1 1;note", 13);
        fault("note\t1 1", 4);
        fault("note \uff11 1", 5);
        fault("note 1 \u0661", 7);
        fault("c", 1);
        fault("ci", 2);
        fault("cu", 2);
        fault("cut", 3);
        fault("cur", 3);
        fault("cux", 2);
        fault("cut 12", 5);
        fault("cite 0>", 7);
        fault("cite 0-1", 6);
        fault("cite 00>1", 6);
        fault("cite 0>12", 8);
        fault("drop 0>x", 7);
        fault("current 1", 9);
        fault("current 1=", 10);
        fault("current 1=-", 11);
        fault("current 1=--1", 11);
        fault("current 1=+1", 10);
        fault("current 1=10", 11);
        fault("current 1=-10", 12);
        fault("current 1=-;", 11);
        fault("net 1 1 1", 5);
        fault("net 1+1+1", 7);
        fault("net 1+111 1", 8);
        fault("haul -1", 5);
        fault("haul 10", 6);
        fault("quota 1=-1", 8);
        fault("quota 1=100", 10);
        fault("free", 4);
        fault("free 99", 6);
        fault("wait 100", 7);
        fault("wait", 4);
        fault("land\u0000", 4);
        faultsAreKept();
    }

    private static void faultsAreKept() {
        fresh();
        feed("note 0 1;cut 00");
        Check.thrown("execute", BAD, () -> f.execute());
        eq("no note", f.noteCount(), 0);
        eq("fault", f.faultPosition(), 14);
        Check.thrown("a fault is no denial", NONE, () -> f.denial());
        run("note 0 1");
        eq("kept after a good text", f.faultPosition(), 14);
        feed("land");
        Check.thrown("land", DENIED, () -> f.execute());
        eq("kept after a denied text", f.faultPosition(), 14);
        f.undo();
        eq("kept after undo", f.faultPosition(), 14);
    }

    // ---- promises 51 and 52

    private static void lines() {
        fresh();
        throwsOnly("writeNote without notes", NONE, () -> f.writeNote(0));
        for (int note = 0; note < 10; note++) {
            f.addNote(note == 3 ? 11 : note, note == 3 ? 7 : 20 + note);
        }
        f.cite(3, 4);
        f.cite(3, 0);
        f.addNet(11, 1, 7);
        f.pass(30);
        f.buyLicence();
        f.haul(0);
        lineIs(3, "3p11w7h>0>4");
        f.land();
        lineIs(3, "3p11w7l>0>4");
        lineIs(0, "0p0w20f");
        for (int other = 0; other < 9; other++) {
            f.cite(9, other);
        }
        lineIs(9, "9p9w29f>0>1>2>3>4>5>6>7>8");
        for (int note : new int[] {-1, 10, Integer.MIN_VALUE, Integer.MAX_VALUE}) {
            throwsOnly("writeNote", NONE, () -> f.writeNote(note));
        }
        eq("the line stays", f.lineCharacter(0), '9');
        f.undo();
        eq("undo leaves the line", f.lineCharacter(24), '8');
        f.uncite(3, 0);
        eq("the line is not written anew", f.writeNote(3), 9);
        f.cite(3, 0);
        Check.thrown("the old length", OUT, () -> f.lineCharacter(9));
    }

    private static void lineIs(int note, String wanted) {
        eq("length of " + wanted, f.writeNote(note), wanted.length());
        for (int i = 0; i < wanted.length(); i++) {
            eq("character " + i + " of " + wanted, f.lineCharacter(i), wanted.charAt(i));
        }
        for (int index : new int[] {-1, wanted.length(), Integer.MIN_VALUE, Integer.MAX_VALUE}) {
            Check.thrown("lineCharacter", OUT, () -> f.lineCharacter(index));
        }
    }

    // ---- promises 53 to 55

    private static void denials() {
        fresh();
        throwsOnly("an exception that is no denial", BAD, () -> f.addNote(-1, 1));
        Check.thrown("nothing was denied yet", NONE, () -> f.denial());
        feed("wait 1;land");
        Check.thrown("execute", DENIED, () -> f.execute());
        eq("denial", f.denial(), 9);
        eq("detail", f.denialDetail(), 1);
        eq("cause", f.denialCause(), 7);
        f.pass(1);
        f.saveSnapshot();
        f.undo();
        f.restoreSnapshot();
        eq("kept", f.denial(), 9);
        eq("kept", f.denialDetail(), 1);
        eq("kept", f.denialCause(), 7);
        throwsOnly("an exception that is no denial", NONE, () -> f.cite(0, 1));
        denied("the next denial has no cause", 7, 0, () -> f.land());
        feed("cut 0");
        Check.thrown("execute", DENIED, () -> f.execute());
        eq("cause", f.denialCause(), 10);
        eq("detail", f.denialDetail(), 0);
    }

    // ---- promises 56 and 57

    private static void undoing() {
        fresh();
        for (int i = 0; i < 10; i++) {
            f.addNote(i, i + 1);
            eq("undo count", f.undoCount(), Math.min(i + 1, 8));
        }
        for (int left = 7; left >= 0; left--) {
            eq("undo", f.undo(), left);
            eq("notes", f.noteCount(), left + 2);
            eq("undo count", f.undoCount(), left);
        }
        throwsOnly("older changes are forgotten", STATE, () -> f.undo());
        f.addNote(0, 30);
        eq("a new note", f.weightOf(2), 30);
        eq("one change", f.undoCount(), 1);
        eq("undo", f.undo(), 0);
        throwsOnly("no other change", STATE, () -> f.undo());
        undoAcrossTheRing();
    }

    private static void undoAcrossTheRing() {
        fresh();
        for (int i = 1; i <= 20; i++) {
            f.setQuota(0, i);
            if (i % 3 == 0) {
                f.undo();
                eq("quota", f.quota(0), i - 1);
            }
        }
        eq("undo count", f.undoCount(), 8);
        int[] quotas = {19, 17, 16, 14, 13, 11, 10, 8};
        for (int quota : quotas) {
            f.undo();
            eq("quota", f.quota(0), quota);
        }
        throwsOnly("no more", STATE, () -> f.undo());
    }

    private static void whatCountsAsChange() {
        fresh();
        undoes("addNote", () -> f.addNote(0, 12));
        f.addNote(0, 12);
        f.addNote(1, 9);
        f.addNote(1, 11);
        undoes("cite", () -> f.cite(0, 1));
        f.cite(0, 1);
        undoes("uncite", () -> f.uncite(0, 1));
        undoes("setCurrent", () -> f.setCurrent(0, 1));
        undoes("setCurrent to the same", () -> f.setCurrent(0, 0));
        undoes("setQuota", () -> f.setQuota(0, 3));
        undoes("setQuota to the same", () -> f.setQuota(0, 20));
        undoes("addNet", () -> f.addNet(0, 3, 10));
        // The nets differ in their pages and meshes, so that it shows if one of these is not undone.
        f.addNet(1, 2, 12);
        f.addNet(0, 2, 10);
        undoes("removeNet", () -> f.removeNet(0));
        undoes("buyLicence", () -> f.buyLicence());
        f.buyLicence();
        undoes("haul", () -> f.haul(1));
        f.haul(1);
        undoes("an empty haul", () -> f.haul(0));
        undoes("free", () -> f.free(1));
        undoes("land", () -> f.land());
        f.setCurrent(0, 1);
        f.setCurrent(1, -1);
        f.free(0);
        undoes("pass with a drift", () -> f.pass(31));
        feed("wait 1;wait 1;quota 5=5");
        undoes("execute", () -> f.execute());
        int count = f.undoCount();
        f.feed('x');
        f.saveSnapshot();
        f.writeNote(0);
        Check.thrown("execute", BAD, () -> f.execute());
        Check.thrown("cite", DENIED, () -> f.cite(0, 1));
        Check.thrown("cite", NONE, () -> f.cite(0, 9));
        eq("none of these is a change", f.undoCount(), count);
        eq("undo leaves the buffer", undoWithText(), 5);
    }

    private static int undoWithText() {
        feed("land");
        f.undo();
        return f.feed(';');
    }

    private static void undoes(String what, Check.Call change) {
        // Two changes of its own, so that the count is not at its limit on the way.
        FootnoteFishery kept = f;
        if (f.undoCount() > 5) {
            f.saveSnapshot();
            f.restoreSnapshot();
            eq("a restored snapshot forgets the changes", f.undoCount(), 0);
        }
        String before = look();
        int count = f.undoCount();
        Check.that(what + " does not throw", !Check.answer(change).startsWith("throws."));
        eq(what + " can be undone", f.undoCount(), count + 1);
        eq(what + " undone", f.undo(), count);
        Check.same(what + " is undone whole", look(), before);
        Check.that(what + " is made on the same object", kept == f);
    }

    // ---- promises 58 and 59

    private static void snapshots() {
        fresh();
        eq("a snapshot of nothing", f.saveSnapshot(), 0);
        String empty = look();
        run("note 0 12;note 1 9;note 1 11;cite 0>1;net 0+2 10;licence");
        run("haul 0;quota 0=5;land;haul 0;current 1=1;wait 5");
        f.writeNote(1);
        String full = look();
        eq("undo count", f.undoCount(), 2);
        eq("restore nothing", f.restoreSnapshot(), 0);
        Check.same("nothing is left", look(), empty);
        eq("restore it again", f.restoreSnapshot(), 0);
        eq("the line stays", f.lineCharacter(0), '1');
        run("note 0 12;note 1 9;note 1 11;cite 0>1;net 0+2 10;licence");
        run("haul 0;quota 0=5;land;haul 0;current 1=1;wait 5");
        Check.same("the same again", look(), full);
        eq("save another", f.saveSnapshot(), 3);
        eq("no change", f.undoCount(), 2);
        f.undo();
        eq("undo leaves the snapshot", f.restoreSnapshot(), 3);
        eq("no change can be undone", f.undoCount(), 0);
        throwsOnly("no change can be undone", STATE, () -> f.undo());
        Check.same("restored", look().replaceFirst(" 0\n", " 2\n"), full);
        f.pass(40);
        f.addNote(5, 5);
        f.cite(2, 3);
        f.setQuota(5, 50);
        f.removeNet(0);
        feed("lan");
        eq("restore", f.restoreSnapshot(), 3);
        eq("the buffer stays", f.feed('d'), 4);
        Check.same("restored again", look().replaceFirst(" 0\n", " 2\n"), full);
        snapshotOfWhatIsMadeAnew();
    }

    /** Notes and nets that are undone and made anew with other numbers are in the snapshot as they were. */
    private static void snapshotOfWhatIsMadeAnew() {
        fresh();
        f.addNote(3, 5);
        f.addNet(3, 2, 5);
        f.saveSnapshot();
        String before = look();
        f.undo();
        f.undo();
        f.addNote(4, 6);
        f.addNet(4, 1, 7);
        eq("restore", f.restoreSnapshot(), 1);
        eq("page", f.pageOf(0), 3);
        eq("weight", f.weightOf(0), 5);
        eq("catch", f.catchSize(0), 1);
        Check.same("as it was", look().replaceFirst(" 0\n", " 2\n"), before);
        f.setQuota(3, 9);
        eq("one change since", f.undoCount(), 1);
        eq("undo it", f.undo(), 0);
        eq("quota", f.quota(3), 20);
    }
}
