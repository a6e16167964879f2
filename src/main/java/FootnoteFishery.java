import java.util.Arrays;
import java.util.NoSuchElementException;

/**
 * A fishery for floating footnotes: notes that drift from page to page and cite each other, nets
 * that draw cited notes along, quotas of pages, landings of the greatest weight, licences by
 * season, and circles of citations.
 *
 * <p>An object is used for at most 512 calls after it has been made; what later calls answer is
 * free. It is not safe for several threads at once.
 */
public final class FootnoteFishery {
    private static final int PAGES = 12;
    private static final int NOTE_LIMIT = 10;
    private static final int NET_LIMIT = 5;
    private static final int WEIGHT_LIMIT = 30;
    private static final int MESH_LIMIT = 30;
    private static final int QUOTA_LIMIT = 99;
    private static final int ROOM_LIMIT = 2 * QUOTA_LIMIT;
    private static final int WAIT_LIMIT = 40;
    private static final int TEXT_LIMIT = 60;
    private static final int UNDO_LIMIT = 8;
    /** No command is shorter than "land". */
    private static final int COMMAND_LIMIT = TEXT_LIMIT / 4;

    private static final int FIRST_QUOTA = 20;
    private static final int FIRST_COINS = 100;
    private static final int COINS_PER_WEIGHT = 2;

    private static final int SEASONS = 4;
    private static final int SEASON_DAYS = 30;
    private static final int FINE_MESH_SEASON = 0;
    private static final int FINE_MESH = 10;
    private static final int DOUBLE_SEASON = 2;
    private static final int STILL_SEASON = 3;
    private static final int[] LICENCE_PRICES = {20, 30, 40, 10};

    private static final char FLOATING = 'f';
    private static final char HELD = 'h';
    private static final char LANDED = 'l';

    // The kinds of commands; each is also the kind of the change that the method of that command makes.
    private static final int NOTE = 0;
    private static final int CITE = 1;
    private static final int DROP = 2;
    private static final int CURRENT = 3;
    private static final int NET = 4;
    private static final int CUT = 5;
    private static final int HAUL = 6;
    private static final int QUOTA = 7;
    private static final int LAND = 8;
    private static final int FREE = 9;
    private static final int LICENCE = 10;
    private static final int WAIT = 11;
    private static final int KINDS = 12;

    // The verdicts on a command: it may go on, it is denied with a number of the document, or it
    // meets an exception other than a denial.
    private static final int FINE = 0;
    private static final int DENIED_LIMIT = 1;
    private static final int DENIED_NO_LICENCE = 2;
    private static final int DENIED_MESH = 3;
    private static final int DENIED_NOT_HELD = 4;
    private static final int DENIED_CITATION = 5;
    private static final int DENIED_COINS = 6;
    private static final int DENIED_EMPTY_HOLD = 7;
    private static final int DENIED_LICENCE = 8;
    private static final int DENIED_COMMAND = 9;
    private static final int CAUSE_OTHER = 10;
    private static final int BAD_ARGUMENT = -1;
    private static final int NO_SUCH_NOTE = -2;
    private static final int NO_SUCH_NET = -3;

    private final State state = new State();
    private final State backup = new State();
    private final History history = new History();
    private final Landing landing = new Landing();
    private final Citations citations = new Citations();
    private final Text text = new Text();
    private final Denial latest = new Denial();
    private final StringBuilder line = new StringBuilder();
    /** Null until a snapshot is saved. */
    private State snapshot;

    /** Creates a fishery without notes, nets and licence, on day 0. */
    public FootnoteFishery() {
    }

    // ---- notes and citations

    public int addNote(int page, int weight) throws IllegalArgumentException, UnsupportedOperationException {
        return change(NOTE, page, weight, 0);
    }

    public int cite(int note, int other)
            throws NoSuchElementException, IllegalArgumentException, UnsupportedOperationException {
        return change(CITE, note, other, 0);
    }

    public int uncite(int note, int other)
            throws NoSuchElementException, IllegalArgumentException, UnsupportedOperationException {
        return change(DROP, note, other, 0);
    }

    public int noteCount() {
        return state.notes;
    }

    public int pageOf(int note) throws NoSuchElementException {
        needNote(note);
        return state.page[note];
    }

    public int weightOf(int note) throws NoSuchElementException {
        needNote(note);
        return state.weight[note];
    }

    public char stateOf(int note) throws NoSuchElementException {
        needNote(note);
        return state.where[note];
    }

    public int citedBy(int note) throws NoSuchElementException {
        needNote(note);
        return state.countCiting(note);
    }

    public boolean doesCite(int note, int other) throws NoSuchElementException {
        needNote(note);
        needNote(other);
        return has(state.cited[note], other);
    }

    public boolean reaches(int note, int other) throws NoSuchElementException {
        needNote(note);
        needNote(other);
        return citations.leadsTo(state, note, other);
    }

    public int circles() {
        return citations.countByDepth(state);
    }

    public int circlesByTable() {
        return citations.countByTable(state);
    }

    public int circleSize(int note) throws NoSuchElementException {
        needNote(note);
        return citations.sizeAround(state, note);
    }

    public int index() {
        return citations.indexByOrder(state);
    }

    public int indexByCounts() {
        return citations.indexByTally(state);
    }

    public int noteByCitations(int rank) throws NoSuchElementException {
        if (!state.hasNote(rank)) {
            throw new NoSuchElementException("no such rank");
        }
        return citations.noteAt(state, rank);
    }

    // ---- pages

    public int setCurrent(int page, int current) throws IllegalArgumentException {
        return change(CURRENT, page, current, 0);
    }

    public int setQuota(int page, int quota) throws IllegalArgumentException {
        return change(QUOTA, page, quota, 0);
    }

    public int current(int page) throws IllegalArgumentException {
        needPage(page);
        return state.current[page];
    }

    public int quota(int page) throws IllegalArgumentException {
        needPage(page);
        return state.quota[page];
    }

    public int room(int page) throws IllegalArgumentException {
        needPage(page);
        return state.roomOn(page);
    }

    public int floatingOn(int page) throws IllegalArgumentException {
        needPage(page);
        return state.countFloatingOn(page);
    }

    // ---- nets

    public int addNet(int first, int span, int mesh)
            throws IllegalArgumentException, UnsupportedOperationException {
        return change(NET, first, span, mesh);
    }

    public int removeNet(int net) throws IndexOutOfBoundsException {
        return change(CUT, net, 0, 0);
    }

    public int haul(int net) throws IndexOutOfBoundsException, UnsupportedOperationException {
        return change(HAUL, net, 0, 0);
    }

    public int netCount() {
        return state.nets;
    }

    public boolean covers(int net, int page) throws IndexOutOfBoundsException, IllegalArgumentException {
        needNet(net);
        needPage(page);
        return state.isCovered(net, page);
    }

    public int catchSize(int net) throws IndexOutOfBoundsException {
        needNet(net);
        return Integer.bitCount(state.catchOf(net));
    }

    public int bestNet() throws NoSuchElementException {
        int best = state.heaviestNet();
        if (best < 0) {
            throw new NoSuchElementException("no net would catch anything");
        }
        return best;
    }

    // ---- hold and landings

    public int land() throws UnsupportedOperationException {
        return change(LAND, 0, 0, 0);
    }

    public int free(int note) throws NoSuchElementException, UnsupportedOperationException {
        return change(FREE, note, 0, 0);
    }

    public int heldCount() {
        return state.count(HELD);
    }

    public int bestLanding() {
        return state.weightOfAll(landing.choose(state));
    }

    public int bestLandingBySets() {
        return landing.heaviestSet(state);
    }

    public boolean wouldLand(int note) throws NoSuchElementException {
        needNote(note);
        return has(landing.choose(state), note);
    }

    // ---- licences, days and accounts

    public int buyLicence() throws UnsupportedOperationException {
        return change(LICENCE, 0, 0, 0);
    }

    public int pass(int days) throws IllegalArgumentException {
        return change(WAIT, days, 0, 0);
    }

    public boolean hasLicence() {
        return state.licence;
    }

    public int day() {
        return state.day;
    }

    public int season() {
        return state.presentSeason();
    }

    public int coins() {
        return state.coins;
    }

    public int caught() {
        return state.caught;
    }

    public int landed() {
        return state.count(LANDED);
    }

    public int returned() {
        return state.returned;
    }

    public double meanWeight() throws ArithmeticException {
        int floating = state.count(FLOATING);
        if (floating == 0) {
            throw new ArithmeticException("no note is floating");
        }
        return (double) state.weightOfAll(state.setOf(FLOATING)) / (double) floating;
    }

    public float landedShare() throws ArithmeticException {
        int notes = state.notes;
        if (notes == 0) {
            throw new ArithmeticException("there are no notes");
        }
        return (float) state.count(LANDED) / (float) notes;
    }

    // ---- texts and output lines

    public int feed(char character) throws IllegalStateException {
        if (text.isFull()) {
            throw new IllegalStateException("the text buffer is full");
        }
        text.append(character);
        return text.length;
    }

    public int execute() throws IllegalArgumentException, UnsupportedOperationException {
        boolean parsed = text.parse();
        text.empty();
        if (!parsed) {
            throw new IllegalArgumentException("the text does not match the grammar");
        }
        backup.copyFrom(state);
        for (int i = 0; i < text.commands; i++) {
            int verdict = runCommand(i);
            if (verdict != FINE) {
                state.copyFrom(backup);
                latest.keep(DENIED_COMMAND, i, verdict > FINE ? verdict : CAUSE_OTHER);
                throw new UnsupportedOperationException("a command failed");
            }
        }
        history.remember(backup);
        return text.commands;
    }

    public int faultPosition() throws NoSuchElementException {
        if (text.fault < 0) {
            throw new NoSuchElementException("no fault position was kept yet");
        }
        return text.fault;
    }

    public int writeNote(int note) throws NoSuchElementException {
        needNote(note);
        line.setLength(0);
        line.append(note).append('p').append(state.page[note]);
        line.append('w').append(state.weight[note]).append(state.where[note]);
        for (int other = 0; other < state.notes; other++) {
            if (has(state.cited[note], other)) {
                line.append('>').append(other);
            }
        }
        return line.length();
    }

    public char lineCharacter(int index) throws IndexOutOfBoundsException {
        if (index < 0 || index >= line.length()) {
            throw new IndexOutOfBoundsException("no such index in the line");
        }
        return line.charAt(index);
    }

    // ---- the latest denial

    public int denial() throws NoSuchElementException {
        needDenial();
        return latest.number;
    }

    public int denialDetail() throws NoSuchElementException {
        needDenial();
        return latest.detail;
    }

    public int denialCause() throws NoSuchElementException {
        needDenial();
        if (latest.cause == FINE) {
            throw new NoSuchElementException("the latest denial has no cause");
        }
        return latest.cause;
    }

    // ---- undo and snapshots

    public int undo() throws IllegalStateException {
        if (history.count == 0) {
            throw new IllegalStateException("no change can be undone");
        }
        history.takeBack(state);
        return history.count;
    }

    public int undoCount() {
        return history.count;
    }

    public int saveSnapshot() {
        if (snapshot == null) {
            snapshot = new State();
        }
        snapshot.copyFrom(state);
        return state.notes;
    }

    public int restoreSnapshot() throws IllegalStateException {
        if (snapshot == null) {
            throw new IllegalStateException("there is no snapshot");
        }
        state.copyFrom(snapshot);
        history.forget();
        return state.notes;
    }

    // ---- what the calls above share

    /** Makes one change that can be undone, or throws what the document asks for. */
    private int change(int kind, int a, int b, int c) {
        int verdict = Judge.judge(state, kind, a, b, c);
        if (verdict > FINE) {
            latest.keep(verdict, Judge.detailOf(state, verdict, kind, a), FINE);
        }
        refuse(verdict);
        history.remember(state);
        return Crew.perform(state, landing, kind, a, b, c);
    }

    private static void refuse(int verdict) {
        if (verdict == BAD_ARGUMENT) {
            throw new IllegalArgumentException("an argument is out of range");
        }
        if (verdict == NO_SUCH_NOTE) {
            throw new NoSuchElementException("no such note");
        }
        if (verdict == NO_SUCH_NET) {
            throw new IndexOutOfBoundsException("no such net");
        }
        if (verdict != FINE) {
            throw new UnsupportedOperationException("denied");
        }
    }

    /** Executes one command of the parsed text if nothing speaks against it. */
    private int runCommand(int i) {
        int kind = text.kind[i];
        int a = text.first[i];
        int b = text.second[i];
        int c = text.third[i];
        int verdict = Judge.judge(state, kind, a, b, c);
        if (verdict == FINE) {
            Crew.perform(state, landing, kind, a, b, c);
        }
        return verdict;
    }

    private void needNote(int note) {
        if (!state.hasNote(note)) {
            throw new NoSuchElementException("no such note");
        }
    }

    private static void needPage(int page) {
        if (!isPage(page)) {
            throw new IllegalArgumentException("no such page");
        }
    }

    private void needNet(int net) {
        if (!state.hasNet(net)) {
            throw new IndexOutOfBoundsException("no such net");
        }
    }

    private void needDenial() {
        if (latest.number == FINE) {
            throw new NoSuchElementException("nothing was denied yet");
        }
    }

    private static boolean isPage(int page) {
        return isBetween(page, 0, PAGES - 1);
    }

    private static boolean isBetween(int number, int least, int greatest) {
        return number >= least && number <= greatest;
    }

    /** Sets of notes are numbers in which the bit of a note's number tells whether it is in. */
    private static boolean has(int set, int note) {
        return (set >> note & 1) != 0;
    }

    private static int bit(int note) {
        return 1 << note;
    }

    /** Everything that changes can change. */
    private static final class State {
        int notes;
        final int[] page = new int[NOTE_LIMIT];
        final int[] weight = new int[NOTE_LIMIT];
        final char[] where = new char[NOTE_LIMIT];
        /** For each note the set of the notes that it cites. */
        final int[] cited = new int[NOTE_LIMIT];

        final int[] current = new int[PAGES];
        final int[] quota = new int[PAGES];
        /** For each page the weight that has been landed on it in this season. */
        final int[] filled = new int[PAGES];

        int nets;
        final int[] first = new int[NET_LIMIT];
        final int[] span = new int[NET_LIMIT];
        final int[] mesh = new int[NET_LIMIT];

        boolean licence;
        int day;
        int coins = FIRST_COINS;
        int caught;
        int returned;

        State() {
            Arrays.fill(quota, FIRST_QUOTA);
        }

        void copyFrom(State other) {
            notes = other.notes;
            System.arraycopy(other.page, 0, page, 0, NOTE_LIMIT);
            System.arraycopy(other.weight, 0, weight, 0, NOTE_LIMIT);
            System.arraycopy(other.where, 0, where, 0, NOTE_LIMIT);
            System.arraycopy(other.cited, 0, cited, 0, NOTE_LIMIT);
            System.arraycopy(other.current, 0, current, 0, PAGES);
            System.arraycopy(other.quota, 0, quota, 0, PAGES);
            System.arraycopy(other.filled, 0, filled, 0, PAGES);
            nets = other.nets;
            System.arraycopy(other.first, 0, first, 0, NET_LIMIT);
            System.arraycopy(other.span, 0, span, 0, NET_LIMIT);
            System.arraycopy(other.mesh, 0, mesh, 0, NET_LIMIT);
            licence = other.licence;
            day = other.day;
            coins = other.coins;
            caught = other.caught;
            returned = other.returned;
        }

        boolean hasNote(int note) {
            return note >= 0 && note < notes;
        }

        boolean hasNet(int net) {
            return net >= 0 && net < nets;
        }

        int presentSeason() {
            // floorMod stays within the table of prices whatever the day is.
            return Math.floorMod(day / SEASON_DAYS, SEASONS);
        }

        int licencePrice() {
            return LICENCE_PRICES[presentSeason()];
        }

        /** The set of the notes that are floating, held or landed. */
        int setOf(char wanted) {
            int set = 0;
            for (int note = 0; note < notes; note++) {
                if (where[note] == wanted) {
                    set |= bit(note);
                }
            }
            return set;
        }

        int count(char wanted) {
            return Integer.bitCount(setOf(wanted));
        }

        int weightOfAll(int set) {
            int sum = 0;
            for (int note = 0; note < notes; note++) {
                if (has(set, note)) {
                    sum += weight[note];
                }
            }
            return sum;
        }

        int countFloatingOn(int wanted) {
            int count = 0;
            for (int note = 0; note < notes; note++) {
                if (where[note] == FLOATING && page[note] == wanted) {
                    count++;
                }
            }
            return count;
        }

        int countCiting(int other) {
            int count = 0;
            for (int note = 0; note < notes; note++) {
                if (has(cited[note], other)) {
                    count++;
                }
            }
            return count;
        }

        int countCitedFrom(int note) {
            return Integer.bitCount(cited[note]);
        }

        int roomOn(int wanted) {
            int whole = presentSeason() == DOUBLE_SEASON ? 2 * quota[wanted] : quota[wanted];
            return Math.max(whole - filled[wanted], 0);
        }

        boolean isCovered(int net, int wanted) {
            return (wanted - first[net] + PAGES) % PAGES < span[net];
        }

        /** The set of the notes that a net would catch if it could be hauled now. */
        int catchOf(int net) {
            int within = floatingWithin(net);
            int set = 0;
            for (int note = 0; note < notes; note++) {
                if (has(within, note) && weight[note] >= mesh[net]) {
                    set |= bit(note);
                }
            }
            // Each round draws the notes one citation further, and a row without repetition is
            // shorter than the number of notes.
            for (int round = 0; round < notes; round++) {
                set |= citedFromSet(set) & within;
            }
            return set;
        }

        private int floatingWithin(int net) {
            int set = 0;
            for (int note = 0; note < notes; note++) {
                if (where[note] == FLOATING && isCovered(net, page[note])) {
                    set |= bit(note);
                }
            }
            return set;
        }

        private int citedFromSet(int set) {
            int all = 0;
            for (int note = 0; note < notes; note++) {
                if (has(set, note)) {
                    all |= cited[note];
                }
            }
            return all;
        }

        /** The net that would catch the greatest weight, or -1 if none would catch anything. */
        int heaviestNet() {
            int best = -1;
            int most = 0;
            for (int net = 0; net < nets; net++) {
                int sum = weightOfAll(catchOf(net));
                if (sum > most) {
                    most = sum;
                    best = net;
                }
            }
            return best;
        }
    }

    /** Tells what speaks against a change, in the order in which the document lists it. */
    private static final class Judge {
        static int judge(State state, int kind, int a, int b, int c) {
            switch (kind) {
                case NOTE:
                    return judgeNote(state, a, b);
                case CITE:
                    return judgeCitation(state, a, b, false);
                case DROP:
                    return judgeCitation(state, a, b, true);
                case CURRENT:
                    return isPage(a) && isBetween(b, -1, 1) ? FINE : BAD_ARGUMENT;
                case NET:
                    return judgeNet(state, a, b, c);
                case CUT:
                    return state.hasNet(a) ? FINE : NO_SUCH_NET;
                case HAUL:
                    return judgeHaul(state, a);
                case QUOTA:
                    return isPage(a) && isBetween(b, 0, QUOTA_LIMIT) ? FINE : BAD_ARGUMENT;
                case LAND:
                    return state.count(HELD) == 0 ? DENIED_EMPTY_HOLD : FINE;
                case FREE:
                    return judgeFree(state, a);
                case LICENCE:
                    return judgeLicence(state);
                case WAIT:
                    return isBetween(a, 1, WAIT_LIMIT) ? FINE : BAD_ARGUMENT;
                default:
                    return BAD_ARGUMENT;
            }
        }

        private static int judgeNote(State state, int page, int weight) {
            if (!isPage(page) || !isBetween(weight, 1, WEIGHT_LIMIT)) {
                return BAD_ARGUMENT;
            }
            return state.notes >= NOTE_LIMIT ? DENIED_LIMIT : FINE;
        }

        private static int judgeCitation(State state, int note, int other, boolean wanted) {
            if (!state.hasNote(note) || !state.hasNote(other)) {
                return NO_SUCH_NOTE;
            }
            if (note == other) {
                return BAD_ARGUMENT;
            }
            return has(state.cited[note], other) == wanted ? FINE : DENIED_CITATION;
        }

        private static int judgeNet(State state, int first, int span, int mesh) {
            if (!isPage(first) || !isBetween(span, 1, PAGES) || !isBetween(mesh, 1, MESH_LIMIT)) {
                return BAD_ARGUMENT;
            }
            return state.nets >= NET_LIMIT ? DENIED_LIMIT : FINE;
        }

        private static int judgeHaul(State state, int net) {
            if (!state.hasNet(net)) {
                return NO_SUCH_NET;
            }
            if (!state.licence) {
                return DENIED_NO_LICENCE;
            }
            boolean tooFine = state.presentSeason() == FINE_MESH_SEASON && state.mesh[net] < FINE_MESH;
            return tooFine ? DENIED_MESH : FINE;
        }

        private static int judgeFree(State state, int note) {
            if (!state.hasNote(note)) {
                return NO_SUCH_NOTE;
            }
            return state.where[note] == HELD ? FINE : DENIED_NOT_HELD;
        }

        private static int judgeLicence(State state) {
            if (state.licence) {
                return DENIED_LICENCE;
            }
            return state.coins < state.licencePrice() ? DENIED_COINS : FINE;
        }

        /** The detail of a denial of a change of this kind, whose first argument is a. */
        static int detailOf(State state, int denial, int kind, int a) {
            switch (denial) {
                case DENIED_LIMIT:
                    return kind == NOTE ? NOTE_LIMIT : NET_LIMIT;
                case DENIED_NO_LICENCE:
                case DENIED_LICENCE:
                    return state.presentSeason();
                case DENIED_MESH:
                    return state.hasNet(a) ? state.mesh[a] : 0;
                case DENIED_NOT_HELD:
                    return a;
                case DENIED_CITATION:
                    return state.hasNote(a) ? state.countCitedFrom(a) : 0;
                case DENIED_COINS:
                    return state.licencePrice() - state.coins;
                case DENIED_EMPTY_HOLD:
                    return state.count(FLOATING);
                default:
                    return 0;
            }
        }
    }

    /** Makes the changes that nothing speaks against; each answers what its method returns. */
    private static final class Crew {
        static int perform(State state, Landing landing, int kind, int a, int b, int c) {
            switch (kind) {
                case NOTE:
                    return putNote(state, a, b);
                case CITE:
                    state.cited[a] |= bit(b);
                    return state.countCitedFrom(a);
                case DROP:
                    state.cited[a] &= ~bit(b);
                    return state.countCitedFrom(a);
                case CURRENT:
                    return replace(state.current, a, b);
                case NET:
                    return putNet(state, a, b, c);
                case CUT:
                    return cutNet(state, a);
                case HAUL:
                    return haulNet(state, a);
                case QUOTA:
                    return replace(state.quota, a, b);
                case LAND:
                    return landHold(state, landing.choose(state));
                case FREE:
                    giveBack(state, a);
                    return state.count(HELD);
                case LICENCE:
                    return payLicence(state);
                case WAIT:
                    return passDays(state, a);
                default:
                    return 0;
            }
        }

        private static int putNote(State state, int page, int weight) {
            int note = state.notes;
            state.page[note] = page;
            state.weight[note] = weight;
            state.where[note] = FLOATING;
            state.cited[note] = 0;
            state.notes = note + 1;
            return note;
        }

        private static int replace(int[] row, int at, int value) {
            int before = row[at];
            row[at] = value;
            return before;
        }

        private static int putNet(State state, int first, int span, int mesh) {
            int net = state.nets;
            state.first[net] = first;
            state.span[net] = span;
            state.mesh[net] = mesh;
            state.nets = net + 1;
            return net;
        }

        private static int cutNet(State state, int net) {
            int last = state.nets - 1;
            for (int i = net; i < last; i++) {
                state.first[i] = state.first[i + 1];
                state.span[i] = state.span[i + 1];
                state.mesh[i] = state.mesh[i + 1];
            }
            state.nets = last;
            return last;
        }

        private static int haulNet(State state, int net) {
            int set = state.catchOf(net);
            for (int note = 0; note < state.notes; note++) {
                if (has(set, note)) {
                    state.where[note] = HELD;
                }
            }
            int count = Integer.bitCount(set);
            state.caught += count;
            return count;
        }

        private static int landHold(State state, int chosen) {
            int sum = state.weightOfAll(chosen);
            for (int note = 0; note < state.notes; note++) {
                if (has(chosen, note)) {
                    state.where[note] = LANDED;
                    state.filled[state.page[note]] += state.weight[note];
                } else if (state.where[note] == HELD) {
                    giveBack(state, note);
                }
            }
            state.coins += COINS_PER_WEIGHT * sum;
            return sum;
        }

        private static void giveBack(State state, int note) {
            state.where[note] = FLOATING;
            state.returned++;
        }

        private static int payLicence(State state) {
            state.coins -= state.licencePrice();
            state.licence = true;
            return state.coins;
        }

        private static int passDays(State state, int days) {
            int moves = 0;
            for (int i = 0; i < days; i++) {
                moves += passDay(state);
            }
            return moves;
        }

        private static int passDay(State state) {
            int before = state.presentSeason();
            state.day++;
            if (state.presentSeason() != before) {
                state.licence = false;
                Arrays.fill(state.filled, 0);
            }
            return state.presentSeason() == STILL_SEASON ? 0 : drift(state);
        }

        private static int drift(State state) {
            int moves = 0;
            for (int note = 0; note < state.notes; note++) {
                int step = state.current[state.page[note]];
                if (state.where[note] == FLOATING && step != 0) {
                    state.page[note] = (state.page[note] + step + PAGES) % PAGES;
                    moves++;
                }
            }
            return moves;
        }
    }

    /** Finds which held notes are landed. */
    private static final class Landing {
        /**
         * For each sum of weights the preferred set of held notes of a page that has it, or -1.
         * Here the note 0 has the highest bit, so that of two sets the preferred one is the greater number.
         */
        private final int[] setOfSum = new int[ROOM_LIMIT + 1];
        private final int[] left = new int[PAGES];

        /** The set of the notes that would be landed if the hold was landed now. */
        int choose(State state) {
            int held = state.setOf(HELD);
            int chosen = 0;
            for (int page = 0; page < PAGES && held != 0; page++) {
                int rest = heldOn(state, held, page);
                if (rest != 0) {
                    chosen |= chooseFrom(state, rest, state.roomOn(page));
                }
            }
            return chosen;
        }

        private static int heldOn(State state, int held, int page) {
            int set = 0;
            for (int note = 0; note < state.notes; note++) {
                if (has(held, note) && state.page[note] == page) {
                    set |= bit(note);
                }
            }
            return set;
        }

        private int chooseFrom(State state, int candidates, int room) {
            int top = Math.min(room, ROOM_LIMIT);
            Arrays.fill(setOfSum, -1);
            setOfSum[0] = 0;
            for (int note = 0; note < state.notes; note++) {
                if (has(candidates, note)) {
                    tryWith(state.weight[note], bit(NOTE_LIMIT - 1 - note), top);
                }
            }
            int sum = top;
            while (sum > 0 && setOfSum[sum] < 0) {
                sum--;
            }
            return turned(setOfSum[sum]);
        }

        /** Goes from the greatest sum downwards, so that the note is added to no sum twice. */
        private void tryWith(int weight, int place, int top) {
            for (int sum = top; sum >= weight; sum--) {
                int without = setOfSum[sum - weight];
                if (without >= 0) {
                    setOfSum[sum] = Math.max(setOfSum[sum], without | place);
                }
            }
        }

        private static int turned(int preferred) {
            int set = 0;
            for (int note = 0; note < NOTE_LIMIT; note++) {
                if (has(preferred, NOTE_LIMIT - 1 - note)) {
                    set |= bit(note);
                }
            }
            return set;
        }

        /** The greatest weight that can be landed, by a trial of all sets of held notes. */
        int heaviestSet(State state) {
            int held = state.setOf(HELD);
            int most = 0;
            for (int set = 1; set <= held; set++) {
                if ((set & ~held) == 0 && fits(state, set)) {
                    most = Math.max(most, state.weightOfAll(set));
                }
            }
            return most;
        }

        private boolean fits(State state, int set) {
            for (int page = 0; page < PAGES; page++) {
                left[page] = state.roomOn(page);
            }
            for (int note = 0; note < state.notes; note++) {
                if (has(set, note)) {
                    left[state.page[note]] -= state.weight[note];
                    if (left[state.page[note]] < 0) {
                        return false;
                    }
                }
            }
            return true;
        }
    }

    /** Circles, ranks and indices; all of it depends on the citations and weights alone. */
    private static final class Citations {
        /** For each note the set of the notes that it reaches. */
        private final int[] reached = new int[NOTE_LIMIT];
        private final int[] order = new int[NOTE_LIMIT];
        private final int[] citing = new int[NOTE_LIMIT];
        private final int[] tally = new int[NOTE_LIMIT];
        private final DepthSearch search = new DepthSearch();

        boolean leadsTo(State state, int note, int other) {
            fillReached(state);
            return has(reached[note], other);
        }

        private void fillReached(State state) {
            System.arraycopy(state.cited, 0, reached, 0, NOTE_LIMIT);
            for (int middle = 0; middle < state.notes; middle++) {
                for (int note = 0; note < state.notes; note++) {
                    if (has(reached[note], middle)) {
                        reached[note] |= reached[middle];
                    }
                }
            }
        }

        int countByDepth(State state) {
            return search.run(state);
        }

        int countByTable(State state) {
            fillReached(state);
            int count = 0;
            for (int note = 0; note < state.notes; note++) {
                // Each circle is counted at its note with the lowest number.
                int circle = circleOf(state, note);
                if (has(circle, note) && (circle & (bit(note) - 1)) == 0) {
                    count++;
                }
            }
            return count;
        }

        int sizeAround(State state, int note) {
            fillReached(state);
            return Math.max(1, Integer.bitCount(circleOf(state, note)));
        }

        /** The set of the notes that a note reaches and that reach it. */
        private int circleOf(State state, int note) {
            int circle = 0;
            for (int other = 0; other < state.notes; other++) {
                if (has(reached[note], other) && has(reached[other], note)) {
                    circle |= bit(other);
                }
            }
            return circle;
        }

        int indexByOrder(State state) {
            sortNotes(state);
            int index = 0;
            while (index < state.notes && citing[order[index]] > index) {
                index++;
            }
            return index;
        }

        int indexByTally(State state) {
            fillCiting(state);
            Arrays.fill(tally, 0);
            for (int note = 0; note < state.notes; note++) {
                tally[citing[note]]++;
            }
            int enough = 0;
            for (int index = NOTE_LIMIT - 1; index > 0; index--) {
                enough += tally[index];
                if (enough >= index) {
                    return index;
                }
            }
            return 0;
        }

        int noteAt(State state, int rank) {
            sortNotes(state);
            return order[rank];
        }

        private void fillCiting(State state) {
            for (int note = 0; note < state.notes; note++) {
                citing[note] = state.countCiting(note);
            }
        }

        private void sortNotes(State state) {
            fillCiting(state);
            for (int note = 0; note < state.notes; note++) {
                int at = note;
                while (at > 0 && comesBefore(state, note, order[at - 1])) {
                    order[at] = order[at - 1];
                    at--;
                }
                order[at] = note;
            }
        }

        /** Of notes that are equal in all else, the order leaves the one with the lower number first. */
        private boolean comesBefore(State state, int note, int other) {
            if (citing[note] != citing[other]) {
                return citing[note] > citing[other];
            }
            return state.weight[note] > state.weight[other];
        }
    }

    /** Counts the circles by a search in depth that numbers the notes in the order in which it meets them. */
    private static final class DepthSearch {
        /** The number that a note got when it was met, from 1, or 0 if it was not met yet. */
        private final int[] met = new int[NOTE_LIMIT];
        private int meetings;
        /** The set of the notes that were met and whose circle is not yet complete. */
        private int open;
        private int found;

        int run(State state) {
            Arrays.fill(met, 0);
            meetings = 0;
            open = 0;
            found = 0;
            for (int note = 0; note < state.notes; note++) {
                if (met[note] == 0) {
                    visit(this, state, note, 1);
                }
            }
            return found;
        }

        /** Returns the lowest number of an open note that is met from this note on. */
        private static int visit(DepthSearch search, State state, int note, int depth) {
            search.meetings++;
            int own = search.meetings;
            search.met[note] = own;
            search.open |= bit(note);
            int lowest = own;
            for (int other = 0; other < state.notes; other++) {
                if (!has(state.cited[note], other)) {
                    continue;
                }
                // A search goes no deeper than there are notes.
                if (search.met[other] == 0 && depth < NOTE_LIMIT) {
                    lowest = Math.min(lowest, visit(search, state, other, depth + 1));
                } else if (has(search.open, other)) {
                    lowest = Math.min(lowest, search.met[other]);
                }
            }
            if (lowest == own) {
                search.close(state, own);
            }
            return lowest;
        }

        /** Completes the circle of the open notes that were met from the number own on. */
        private void close(State state, int own) {
            int circle = 0;
            for (int note = 0; note < state.notes; note++) {
                if (has(open, note) && met[note] >= own) {
                    circle |= bit(note);
                }
            }
            open &= ~circle;
            if (Integer.bitCount(circle) > 1) {
                found++;
            }
        }
    }

    /** The text buffer, its parser, and the commands that were parsed last. */
    private static final class Text {
        private static final char NUMBER = 'N';
        private static final char DIGIT = 'D';
        private static final char SIGNED_DIGIT = 'S';

        private final char[] signs = new char[TEXT_LIMIT];
        int length;
        /** The fault position that was kept last, or -1. */
        int fault = -1;

        int commands;
        final int[] kind = new int[COMMAND_LIMIT];
        final int[] first = new int[COMMAND_LIMIT];
        final int[] second = new int[COMMAND_LIMIT];
        final int[] third = new int[COMMAND_LIMIT];

        /** The index of the next character to be matched. */
        private int at;
        private final int[] values = new int[3];
        private int valueCount;

        boolean isFull() {
            return length >= TEXT_LIMIT;
        }

        void append(char character) {
            if (!isFull()) {
                signs[length] = character;
                length++;
            }
        }

        void empty() {
            length = 0;
        }

        /** Parses the whole buffer into the commands; if it does not match, keeps the fault position. */
        boolean parse() {
            commands = 0;
            int start = 0;
            for (int i = 0; i < COMMAND_LIMIT; i++) {
                if (!parseCommand(start)) {
                    return false;
                }
                if (at == length) {
                    return true;
                }
                if (signs[at] != ';') {
                    fault = at;
                    return false;
                }
                start = at + 1;
            }
            fault = length;
            return false;
        }

        /** The fault lies where even the command that matches furthest can't go on. */
        private boolean parseCommand(int start) {
            int furthest = start;
            for (int candidate = 0; candidate < KINDS; candidate++) {
                if (matches(templateOf(candidate), start)) {
                    addCommand(candidate);
                    return true;
                }
                furthest = Math.max(furthest, at);
            }
            fault = furthest;
            return false;
        }

        private static String templateOf(int kind) {
            switch (kind) {
                case NOTE:
                    return "note N N";
                case CITE:
                    return "cite D>D";
                case DROP:
                    return "drop D>D";
                case CURRENT:
                    return "current N=S";
                case NET:
                    return "net N+N N";
                case CUT:
                    return "cut D";
                case HAUL:
                    return "haul D";
                case QUOTA:
                    return "quota N=N";
                case LAND:
                    return "land";
                case FREE:
                    return "free D";
                case LICENCE:
                    return "licence";
                default:
                    return "wait N";
            }
        }

        private void addCommand(int found) {
            if (commands < COMMAND_LIMIT) {
                kind[commands] = found;
                first[commands] = values[0];
                second[commands] = values[1];
                third[commands] = values[2];
                commands++;
            }
        }

        /** Matches a template from start on; at then is the end, or the first character that does not fit. */
        private boolean matches(String template, int start) {
            at = start;
            valueCount = 0;
            Arrays.fill(values, 0);
            for (int i = 0; i < template.length(); i++) {
                if (!matchesPart(template.charAt(i))) {
                    return false;
                }
            }
            return true;
        }

        private boolean matchesPart(char part) {
            if (part == NUMBER) {
                return matchesNumber();
            }
            if (part == DIGIT) {
                return matchesDigit(1);
            }
            if (part == SIGNED_DIGIT) {
                return matchesDigit(takes('-') ? -1 : 1);
            }
            return takes(part);
        }

        private boolean matchesNumber() {
            if (!isDigitNext()) {
                return false;
            }
            int value = takeDigit();
            if (isDigitNext()) {
                value = 10 * value + takeDigit();
            }
            addValue(value);
            return true;
        }

        private boolean matchesDigit(int factor) {
            if (!isDigitNext()) {
                return false;
            }
            addValue(factor * takeDigit());
            return true;
        }

        private boolean takes(char sign) {
            if (at >= length || signs[at] != sign) {
                return false;
            }
            at++;
            return true;
        }

        private boolean isDigitNext() {
            return at < length && signs[at] >= '0' && signs[at] <= '9';
        }

        private int takeDigit() {
            int digit = signs[at] - '0';
            at++;
            return digit;
        }

        private void addValue(int value) {
            if (valueCount < values.length) {
                values[valueCount] = value;
                valueCount++;
            }
        }
    }

    /** The latest denial; its number is 0 before the first one, and its cause is 0 if it has none. */
    private static final class Denial {
        int number;
        int detail;
        int cause;

        void keep(int newNumber, int newDetail, int newCause) {
            number = newNumber;
            detail = newDetail;
            cause = newCause;
        }
    }

    /** The states before the latest changes, in a ring. */
    private static final class History {
        private final State[] ring = new State[UNDO_LIMIT];
        private int next;
        int count;

        void remember(State state) {
            State slot = ring[next];
            if (slot == null) {
                slot = new State();
                ring[next] = slot;
            }
            slot.copyFrom(state);
            next = (next + 1) % UNDO_LIMIT;
            count = Math.min(count + 1, UNDO_LIMIT);
        }

        void takeBack(State state) {
            int newest = (next + UNDO_LIMIT - 1) % UNDO_LIMIT;
            State slot = ring[newest];
            if (count > 0 && slot != null) {
                state.copyFrom(slot);
                next = newest;
                count--;
            }
        }

        void forget() {
            count = 0;
        }
    }
}
