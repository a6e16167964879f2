import java.util.ArrayDeque;
import java.util.ArrayList;
import java.util.Comparator;
import java.util.Deque;
import java.util.HashSet;
import java.util.List;
import java.util.NoSuchElementException;
import java.util.Set;
import java.util.TreeSet;
import java.util.regex.Matcher;
import java.util.regex.Pattern;

/**
 * A second fishery, written from the document by other ways than the class under test: with lists
 * and sets, trials of all sets, and regular expressions for the texts.
 */
final class Model {
    private static final String COMMAND = "(?:note ([0-9]{1,2}) ([0-9]{1,2})|cite ([0-9])>([0-9])|drop ([0-9])>([0-9])"
        + "|current ([0-9]{1,2})=(-?[0-9])|net ([0-9]{1,2})\\+([0-9]{1,2}) ([0-9]{1,2})|cut ([0-9])|haul ([0-9])"
        + "|quota ([0-9]{1,2})=([0-9]{1,2})|land|free ([0-9])|licence|wait ([0-9]{1,2}))";
    private static final Pattern ONE = Pattern.compile(COMMAND);
    private static final Pattern TEXT = Pattern.compile(COMMAND + "(?:;" + COMMAND + ")*");

    private static final class Denied extends RuntimeException {
        private static final long serialVersionUID = 1L;
        final int number;
        final int detail;

        Denied(int number, int detail) {
            this.number = number;
            this.detail = detail;
        }
    }

    private static final class Note {
        int page;
        int weight;
        char where = 'f';
        final Set<Integer> cites = new TreeSet<>();
    }

    private static final class World {
        final List<Note> notes = new ArrayList<>();
        final List<int[]> nets = new ArrayList<>();
        final int[] current = new int[12];
        final int[] quota = {20, 20, 20, 20, 20, 20, 20, 20, 20, 20, 20, 20};
        final int[] filled = new int[12];
        boolean licence;
        int day;
        int coins = 100;
        int caught;
        int landed;
        int returned;

        World copy() {
            World copy = new World();
            for (Note note : notes) {
                Note other = new Note();
                other.page = note.page;
                other.weight = note.weight;
                other.where = note.where;
                other.cites.addAll(note.cites);
                copy.notes.add(other);
            }
            for (int[] net : nets) {
                copy.nets.add(net.clone());
            }
            for (int page = 0; page < 12; page++) {
                copy.current[page] = current[page];
                copy.quota[page] = quota[page];
                copy.filled[page] = filled[page];
            }
            copy.licence = licence;
            copy.day = day;
            copy.coins = coins;
            copy.caught = caught;
            copy.landed = landed;
            copy.returned = returned;
            return copy;
        }
    }

    private World world = new World();
    private final Deque<World> past = new ArrayDeque<>();
    private World snapshot;
    private final StringBuilder text = new StringBuilder();
    private int fault = -1;
    private String line = "";
    private int[] latest;
    private boolean inText;

    private int change(java.util.function.IntSupplier work) {
        World before = world.copy();
        int answer;
        try {
            answer = work.getAsInt();
        } catch (Denied denied) {
            world = before;
            if (inText) {
                throw denied;
            }
            latest = new int[] {denied.number, denied.detail, 0};
            throw new UnsupportedOperationException();
        }
        if (!inText) {
            past.addLast(before);
            if (past.size() > 8) {
                past.removeFirst();
            }
        }
        return answer;
    }

    private Note note(int number) {
        if (number < 0 || number >= world.notes.size()) {
            throw new NoSuchElementException();
        }
        return world.notes.get(number);
    }

    private int[] net(int index) {
        if (index < 0 || index >= world.nets.size()) {
            throw new IndexOutOfBoundsException();
        }
        return world.nets.get(index);
    }

    private static void range(int value, int least, int greatest) {
        if (value < least || value > greatest) {
            throw new IllegalArgumentException();
        }
    }

    int addNote(int page, int weight) {
        range(page, 0, 11);
        range(weight, 1, 30);
        return change(() -> {
            if (world.notes.size() == 10) {
                throw new Denied(1, 10);
            }
            Note note = new Note();
            note.page = page;
            note.weight = weight;
            world.notes.add(note);
            return world.notes.size() - 1;
        });
    }

    int cite(int note, int other) {
        Note from = note(note);
        note(other);
        range(note == other ? 1 : 0, 0, 0);
        return change(() -> {
            if (!note(note).cites.add(other)) {
                throw new Denied(5, from.cites.size());
            }
            return note(note).cites.size();
        });
    }

    int uncite(int note, int other) {
        Note from = note(note);
        note(other);
        range(note == other ? 1 : 0, 0, 0);
        return change(() -> {
            if (!note(note).cites.remove(other)) {
                throw new Denied(5, from.cites.size());
            }
            return note(note).cites.size();
        });
    }

    int noteCount() {
        return world.notes.size();
    }

    int pageOf(int note) {
        return note(note).page;
    }

    int weightOf(int note) {
        return note(note).weight;
    }

    char stateOf(int note) {
        return note(note).where;
    }

    int citedBy(int note) {
        note(note);
        return (int) world.notes.stream().filter(other -> other.cites.contains(note)).count();
    }

    boolean doesCite(int note, int other) {
        note(other);
        return note(note).cites.contains(other);
    }

    private Set<Integer> reachedFrom(int note) {
        Set<Integer> reached = new HashSet<>();
        Deque<Integer> todo = new ArrayDeque<>(note(note).cites);
        while (!todo.isEmpty()) {
            int next = todo.removeFirst();
            if (reached.add(next)) {
                todo.addAll(note(next).cites);
            }
        }
        return reached;
    }

    boolean reaches(int note, int other) {
        note(other);
        return reachedFrom(note).contains(other);
    }

    private Set<Integer> circleOf(int note) {
        Set<Integer> circle = new TreeSet<>();
        for (int other : reachedFrom(note)) {
            if (reachedFrom(other).contains(note)) {
                circle.add(other);
            }
        }
        return circle;
    }

    int circles() {
        Set<Set<Integer>> all = new HashSet<>();
        for (int note = 0; note < world.notes.size(); note++) {
            Set<Integer> circle = circleOf(note);
            if (circle.size() > 1) {
                all.add(circle);
            }
        }
        return all.size();
    }

    int circleSize(int note) {
        note(note);
        return Math.max(1, circleOf(note).size());
    }

    int index() {
        int index = 0;
        for (int h = 1; h <= world.notes.size(); h++) {
            int enough = 0;
            for (int note = 0; note < world.notes.size(); note++) {
                enough += citedBy(note) >= h ? 1 : 0;
            }
            index = enough >= h ? h : index;
        }
        return index;
    }

    int noteByCitations(int rank) {
        List<Integer> order = new ArrayList<>();
        for (int note = 0; note < world.notes.size(); note++) {
            order.add(note);
        }
        order.sort(Comparator.<Integer>comparingInt(note -> -citedBy(note))
            .thenComparingInt(note -> -weightOf(note)).thenComparingInt(note -> note));
        if (rank < 0 || rank >= order.size()) {
            throw new NoSuchElementException();
        }
        return order.get(rank);
    }

    int setCurrent(int page, int current) {
        range(page, 0, 11);
        range(current, -1, 1);
        return change(() -> {
            int before = world.current[page];
            world.current[page] = current;
            return before;
        });
    }

    int setQuota(int page, int quota) {
        range(page, 0, 11);
        range(quota, 0, 99);
        return change(() -> {
            int before = world.quota[page];
            world.quota[page] = quota;
            return before;
        });
    }

    int current(int page) {
        range(page, 0, 11);
        return world.current[page];
    }

    int quota(int page) {
        range(page, 0, 11);
        return world.quota[page];
    }

    int room(int page) {
        range(page, 0, 11);
        int room = world.quota[page] * (season() == 2 ? 2 : 1) - world.filled[page];
        return room < 0 ? 0 : room;
    }

    int floatingOn(int page) {
        range(page, 0, 11);
        return (int) world.notes.stream().filter(note -> note.where == 'f' && note.page == page).count();
    }

    int addNet(int first, int span, int mesh) {
        range(first, 0, 11);
        range(span, 1, 12);
        range(mesh, 1, 30);
        return change(() -> {
            if (world.nets.size() == 5) {
                throw new Denied(1, 5);
            }
            world.nets.add(new int[] {first, span, mesh});
            return world.nets.size() - 1;
        });
    }

    int removeNet(int net) {
        net(net);
        return change(() -> {
            world.nets.remove(net);
            return world.nets.size();
        });
    }

    int haul(int net) {
        int mesh = net(net)[2];
        return change(() -> {
            if (!world.licence) {
                throw new Denied(2, season());
            }
            if (season() == 0 && mesh < 10) {
                throw new Denied(3, mesh);
            }
            Set<Integer> caught = catchOf(net);
            for (int note : caught) {
                note(note).where = 'h';
            }
            world.caught += caught.size();
            return caught.size();
        });
    }

    int netCount() {
        return world.nets.size();
    }

    boolean covers(int net, int page) {
        int[] row = net(net);
        range(page, 0, 11);
        for (int i = 0; i < row[1]; i++) {
            if ((row[0] + i) % 12 == page) {
                return true;
            }
        }
        return false;
    }

    private Set<Integer> catchOf(int net) {
        Set<Integer> caught = new TreeSet<>();
        boolean grown = true;
        while (grown) {
            grown = false;
            for (int i = 0; i < world.notes.size(); i++) {
                Note note = note(i);
                int number = i;
                boolean drawn = note.weight >= net(net)[2] || caught.stream().anyMatch(c -> note(c).cites.contains(number));
                if (note.where == 'f' && covers(net, note.page) && drawn) {
                    grown |= caught.add(i);
                }
            }
        }
        return caught;
    }

    int catchSize(int net) {
        net(net);
        return catchOf(net).size();
    }

    int bestNet() {
        int best = -1;
        int most = 0;
        for (int net = 0; net < world.nets.size(); net++) {
            int sum = catchOf(net).stream().mapToInt(this::weightOf).sum();
            if (sum > most) {
                most = sum;
                best = net;
            }
        }
        if (best < 0) {
            throw new NoSuchElementException();
        }
        return best;
    }

    /** The preferred set of all fitting sets of held notes; the pages don't disturb one another. */
    private Set<Integer> landing() {
        Set<Integer> landing = new TreeSet<>();
        for (int page = 0; page < 12; page++) {
            List<Integer> held = new ArrayList<>();
            for (int i = 0; i < world.notes.size(); i++) {
                if (note(i).where == 'h' && note(i).page == page) {
                    held.add(i);
                }
            }
            Set<Integer> best = new TreeSet<>();
            for (int bits = 0; bits < 1 << held.size(); bits++) {
                Set<Integer> set = new TreeSet<>();
                for (int i = 0; i < held.size(); i++) {
                    if ((bits >> i & 1) == 1) {
                        set.add(held.get(i));
                    }
                }
                if (sum(set) <= room(page) && isBetter(set, best)) {
                    best = set;
                }
            }
            landing.addAll(best);
        }
        return landing;
    }

    private int sum(Set<Integer> set) {
        return set.stream().mapToInt(this::weightOf).sum();
    }

    private boolean isBetter(Set<Integer> set, Set<Integer> best) {
        if (sum(set) != sum(best)) {
            return sum(set) > sum(best);
        }
        for (int i = 0; i < world.notes.size(); i++) {
            if (set.contains(i) != best.contains(i)) {
                return set.contains(i);
            }
        }
        return false;
    }

    int land() {
        return change(() -> {
            if (heldCount() == 0) {
                throw new Denied(7, world.notes.size() - landed());
            }
            Set<Integer> landing = landing();
            int sum = sum(landing);
            for (int i = 0; i < world.notes.size(); i++) {
                Note note = note(i);
                if (landing.contains(i)) {
                    note.where = 'l';
                    world.landed++;
                    world.filled[note.page] += note.weight;
                } else if (note.where == 'h') {
                    note.where = 'f';
                    world.returned++;
                }
            }
            world.coins += 2 * sum;
            return sum;
        });
    }

    int free(int note) {
        note(note);
        return change(() -> {
            if (note(note).where != 'h') {
                throw new Denied(4, note);
            }
            note(note).where = 'f';
            world.returned++;
            return heldCount();
        });
    }

    int heldCount() {
        return (int) world.notes.stream().filter(note -> note.where == 'h').count();
    }

    int bestLanding() {
        return sum(landing());
    }

    boolean wouldLand(int note) {
        note(note);
        return landing().contains(note);
    }

    int buyLicence() {
        return change(() -> {
            if (world.licence) {
                throw new Denied(8, season());
            }
            int price = season() == 0 ? 20 : season() == 1 ? 30 : season() == 2 ? 40 : 10;
            if (world.coins < price) {
                throw new Denied(6, price - world.coins);
            }
            world.licence = true;
            world.coins -= price;
            return world.coins;
        });
    }

    int pass(int days) {
        range(days, 1, 40);
        return change(() -> {
            int moves = 0;
            for (int i = 0; i < days; i++) {
                world.day++;
                if (world.day % 30 == 0) {
                    world.licence = false;
                    java.util.Arrays.fill(world.filled, 0);
                }
                for (Note note : world.notes) {
                    if (season() != 3 && note.where == 'f' && world.current[note.page] != 0) {
                        note.page = (note.page + 12 + world.current[note.page]) % 12;
                        moves++;
                    }
                }
            }
            return moves;
        });
    }

    boolean hasLicence() {
        return world.licence;
    }

    int day() {
        return world.day;
    }

    int season() {
        return world.day / 30 % 4;
    }

    int coins() {
        return world.coins;
    }

    int caught() {
        return world.caught;
    }

    int landed() {
        return world.landed;
    }

    int returned() {
        return world.returned;
    }

    double meanWeight() {
        int sum = 0;
        int count = 0;
        for (Note note : world.notes) {
            if (note.where == 'f') {
                sum += note.weight;
                count++;
            }
        }
        if (count == 0) {
            throw new ArithmeticException();
        }
        return (double) sum / (double) count;
    }

    float landedShare() {
        if (world.notes.isEmpty()) {
            throw new ArithmeticException();
        }
        return (float) world.landed / (float) world.notes.size();
    }

    int feed(char character) {
        if (text.length() == 60) {
            throw new IllegalStateException();
        }
        text.append(character);
        return text.length();
    }

    int execute() {
        String whole = text.toString();
        text.setLength(0);
        if (!TEXT.matcher(whole).matches()) {
            fault = faultOf(whole);
            throw new IllegalArgumentException();
        }
        World before = world.copy();
        String[] commands = whole.split(";");
        inText = true;
        for (int i = 0; i < commands.length; i++) {
            int[] cause = failure(commands[i]);
            if (cause != null) {
                inText = false;
                world = before;
                latest = new int[] {9, i, cause[0]};
                throw new UnsupportedOperationException();
            }
        }
        inText = false;
        past.addLast(before);
        if (past.size() > 8) {
            past.removeFirst();
        }
        return commands.length;
    }

    private static int faultOf(String whole) {
        for (int length = 1; length <= whole.length(); length++) {
            Matcher matcher = TEXT.matcher(whole.substring(0, length));
            if (!matcher.matches() && !matcher.hitEnd()) {
                return length - 1;
            }
        }
        return whole.length();
    }

    private int[] failure(String command) {
        Matcher matcher = ONE.matcher(command);
        range(matcher.matches() ? 0 : 1, 0, 0);
        List<Integer> numbers = new ArrayList<>();
        for (int group = 1; group <= matcher.groupCount(); group++) {
            if (matcher.group(group) != null) {
                numbers.add(Integer.parseInt(matcher.group(group)));
            }
        }
        try {
            run(command.replaceAll("[^a-z].*", ""), numbers);
            return null;
        } catch (Denied denied) {
            return new int[] {denied.number};
        } catch (IllegalArgumentException | NoSuchElementException | IndexOutOfBoundsException e) {
            return new int[] {10};
        }
    }

    private void run(String name, List<Integer> n) {
        switch (name) {
            case "note" -> addNote(n.get(0), n.get(1));
            case "cite" -> cite(n.get(0), n.get(1));
            case "drop" -> uncite(n.get(0), n.get(1));
            case "current" -> setCurrent(n.get(0), n.get(1));
            case "net" -> addNet(n.get(0), n.get(1), n.get(2));
            case "cut" -> removeNet(n.get(0));
            case "haul" -> haul(n.get(0));
            case "quota" -> setQuota(n.get(0), n.get(1));
            case "land" -> land();
            case "free" -> free(n.get(0));
            case "licence" -> buyLicence();
            case "wait" -> pass(n.get(0));
            default -> throw new AssertionError(name);
        }
    }

    int faultPosition() {
        if (fault < 0) {
            throw new NoSuchElementException();
        }
        return fault;
    }

    int writeNote(int note) {
        Note row = note(note);
        line = note + "p" + row.page + "w" + row.weight + row.where;
        for (int other : row.cites) {
            line += ">" + other;
        }
        return line.length();
    }

    char lineCharacter(int index) {
        if (index < 0 || index >= line.length()) {
            throw new IndexOutOfBoundsException();
        }
        return line.charAt(index);
    }

    int denial() {
        return latestAt(0);
    }

    int denialDetail() {
        return latestAt(1);
    }

    int denialCause() {
        if (latestAt(2) == 0) {
            throw new NoSuchElementException();
        }
        return latest[2];
    }

    private int latestAt(int i) {
        if (latest == null) {
            throw new NoSuchElementException();
        }
        return latest[i];
    }

    int undo() {
        if (past.isEmpty()) {
            throw new IllegalStateException();
        }
        world = past.removeLast();
        return past.size();
    }

    int undoCount() {
        return past.size();
    }

    int saveSnapshot() {
        snapshot = world.copy();
        return world.notes.size();
    }

    int restoreSnapshot() {
        if (snapshot == null) {
            throw new IllegalStateException();
        }
        world = snapshot.copy();
        past.clear();
        return world.notes.size();
    }
}
