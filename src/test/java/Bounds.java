import java.io.IOException;
import java.lang.reflect.InvocationTargetException;
import java.lang.reflect.Method;
import java.nio.file.Files;
import java.nio.file.Path;
import java.util.ArrayList;
import java.util.Arrays;
import java.util.Comparator;
import java.util.EnumSet;
import java.util.List;
import java.util.NoSuchElementException;
import java.util.Set;

/**
 * What the tests of the document's boundaries share. Each of these tests is a method that bears the
 * sentence that it holds, and begins with a new fishery.
 */
abstract class Bounds {
    static final Class<IllegalArgumentException> BAD = IllegalArgumentException.class;
    static final Class<NoSuchElementException> NONE = NoSuchElementException.class;
    static final Class<IndexOutOfBoundsException> OUT = IndexOutOfBoundsException.class;
    static final Class<UnsupportedOperationException> DENIED = UnsupportedOperationException.class;
    static final Class<IllegalStateException> STATE = IllegalStateException.class;
    static final Class<ArithmeticException> NO_MEAN = ArithmeticException.class;

    private static final Path DOCUMENT = Path.of("../shared/DOC.md");

    /** The fishery of the present test. */
    static FootnoteFishery f;

    /** Calls that lead a new fishery to where a test begins. */
    interface Step {
        void on(FootnoteFishery x);
    }

    /** One call. */
    interface Ask {
        Object of(FootnoteFishery x);
    }

    /** One call with a number that is varied. */
    interface AskWith {
        Object of(FootnoteFishery x, int number);
    }

    static final Step NOTHING = x -> { };

    // ---- the runner

    /** Runs every method of the class that bears a sentence. */
    static void runAll(Class<?> tests) {
        Method[] methods = tests.getDeclaredMethods();
        Arrays.sort(methods, Comparator.comparing(Method::getName));
        String document = read();
        for (Method method : methods) {
            Sentence sentence = method.getAnnotation(Sentence.class);
            if (sentence != null) {
                runOne(method, sentence);
                tellIfUnknown(document, sentence);
            }
        }
        Check.end(tests.getSimpleName());
    }

    private static void runOne(Method method, Sentence sentence) {
        Check.about(method.getName() + " [" + sentence.under() + ": " + sentence.says() + "]: ");
        f = new FootnoteFishery();
        int before = Check.checksSoFar();
        try {
            method.invoke(null);
        } catch (InvocationTargetException e) {
            Check.that("ended with " + e.getCause(), false);
        } catch (IllegalAccessException e) {
            Check.that("can't be run: " + e, false);
        }
        Check.that("the test checks something", Check.checksSoFar() > before);
        Check.about("");
    }

    private static String read() {
        try {
            return Files.readString(DOCUMENT);
        } catch (IOException e) {
            return "";
        }
    }

    /** A later document may put a sentence otherwise; that alone breaks no promise, so it is only told. */
    private static void tellIfUnknown(String document, Sentence sentence) {
        int start = document.indexOf("\n## " + sentence.under() + "\n");
        int end = document.indexOf("\n## ", start + 1);
        String section = start < 0 ? "" : document.substring(start, end < 0 ? document.length() : end);
        if (!document.isEmpty() && !section.contains(sentence.says())) {
            System.out.println("note: not in the document under '" + sentence.under() + "': " + sentence.says());
        }
    }

    // ---- refused calls

    /** After these steps the call throws exactly this, and no call can tell that it was made. */
    static void refuses(String call, Class<? extends RuntimeException> want, Step steps, Ask ask) {
        throwsAndLeaves(EnumSet.allOf(Look.class), call, want, dressed("wait 7", steps), ask);
    }

    /** As refuses, with nothing but these steps ahead of the call. */
    static void refusesBare(String call, Class<? extends RuntimeException> want, Step steps, Ask ask) {
        throwsAndLeaves(EnumSet.allOf(Look.class), call, want, steps, ask);
    }

    /** After these steps the call is denied for this reason; nothing but the latest denial has changed. */
    static void denies(String call, int number, int detail, Step steps, Ask ask) {
        throwsAndLeaves(EnumSet.complementOf(EnumSet.of(Look.DENIAL)), call, DENIED, dressed("wait 7", steps), ask);
        FootnoteFishery x = made(dressed("wait 7", steps));
        Check.thrown(call, DENIED, () -> ask.of(x));
        Check.same(call + ": denial, detail and cause", Look.DENIAL.at(x), number + " " + detail + " throws.NoSuchElementException");
    }

    /** The text does not match the grammar; nothing but the fault position has changed, and the buffer is empty. */
    static void faults(String text, int position, Step steps) {
        Ask ask = x -> run(x, text);
        throwsAndLeaves(EnumSet.complementOf(EnumSet.of(Look.FAULT)), "'" + text + "'", BAD, dressed("", steps), ask);
        FootnoteFishery x = made(dressed("", steps));
        Check.thrown("'" + text + "'", BAD, () -> ask.of(x));
        Check.equal("fault of '" + text + "'", x.faultPosition(), position);
    }

    /** The text fails; nothing but the latest denial has changed, and the buffer is empty. */
    static void fails(String text, int index, int cause, Step steps) {
        Ask ask = x -> run(x, text);
        throwsAndLeaves(EnumSet.complementOf(EnumSet.of(Look.DENIAL)), "'" + text + "'", DENIED, dressed("", steps), ask);
        FootnoteFishery x = made(dressed("", steps));
        Check.thrown("'" + text + "'", DENIED, () -> ask.of(x));
        Check.same("'" + text + "': denial, index and cause", Look.DENIAL.at(x), "9 " + index + " " + cause);
    }

    private static void throwsAndLeaves(Set<Look> looks, String call, Class<? extends RuntimeException> want, Step steps, Ask ask) {
        for (Look look : looks) {
            FootnoteFishery left = made(steps);
            FootnoteFishery tried = made(steps);
            Check.thrown(call, want, () -> ask.of(tried));
            Check.same(call + " leaves " + look, look.at(tried), look.at(left));
        }
    }

    static FootnoteFishery made(Step steps) {
        FootnoteFishery x = new FootnoteFishery();
        steps.on(x);
        return x;
    }

    /** The steps with a snapshot, a denial, a fault, a line and a text, so that it shows if one is touched. */
    private static Step dressed(String text, Step steps) {
        return x -> {
            x.setQuota(6, 66);
            x.saveSnapshot();
            x.setQuota(6, 67);
            Check.answer(() -> x.land());
            feed(x, "la");
            Check.answer(() -> x.execute());
            feed(x, text);
            steps.on(x);
            Check.answer(() -> x.writeNote(0));
        };
    }

    // ---- numbers on either side of a range

    /** Numbers below and above the range: the nearest, the farthest, and some that wrap into it by bits. */
    static int[] outside(int least, int greatest) {
        return new int[] {least - 1, greatest + 1, Integer.MIN_VALUE, Integer.MAX_VALUE, least - 256, greatest + 256};
    }

    /** With no, some and all notes: the numbers of the first and the last are taken, the nearest ones refused. */
    static void needsNote(String call, AskWith ask) {
        for (int count : new int[] {0, 1, 3, 10}) {
            for (int wrong : outside(0, count - 1)) {
                refuses(call + " of the note " + wrong + " of " + count, NONE, notes(count), x -> ask.of(x, wrong));
            }
            if (count > 0) {
                takes(call + " of the first note of " + count, NONE, notes(count), x -> ask.of(x, 0));
                takes(call + " of the last note of " + count, NONE, notes(count), x -> ask.of(x, count - 1));
            }
        }
    }

    /** With no, some and all nets: the indices of the first and the last are taken, the nearest ones refused. */
    static void needsNet(String call, AskWith ask) {
        for (int count : new int[] {0, 1, 3, 5}) {
            for (int wrong : outside(0, count - 1)) {
                refuses(call + " of the net " + wrong + " of " + count, OUT, nets(count), x -> ask.of(x, wrong));
            }
            if (count > 0) {
                takes(call + " of the first net of " + count, OUT, nets(count), x -> ask.of(x, 0));
                takes(call + " of the last net of " + count, OUT, nets(count), x -> ask.of(x, count - 1));
            }
        }
    }

    /** The least and the greatest number are taken, the nearest ones beyond are refused. */
    static void needsRange(String call, int least, int greatest, Step steps, AskWith ask) {
        for (int wrong : outside(least, greatest)) {
            refuses(call + " with " + wrong, BAD, steps, x -> ask.of(x, wrong));
        }
        takes(call + " with " + least, BAD, steps, x -> ask.of(x, least));
        takes(call + " with " + greatest, BAD, steps, x -> ask.of(x, greatest));
    }

    private static void takes(String call, Class<? extends RuntimeException> refusal, Step steps, Ask ask) {
        FootnoteFishery x = made(steps);
        String answer = Check.answer(() -> ask.of(x));
        Check.that(call + " answered " + answer, !answer.equals("throws." + refusal.getSimpleName()));
    }

    // ---- steps

    /** Notes on the pages from 0 on, with weights from 10 on. */
    static Step notes(int count) {
        return x -> {
            for (int note = 0; note < count; note++) {
                x.addNote(note, 10 + note);
            }
        };
    }

    /** Nets with the first pages, spans and meshes from 1 on. */
    static Step nets(int count) {
        return x -> {
            for (int net = 0; net < count; net++) {
                x.addNet(net + 1, net + 1, net + 1);
            }
        };
    }

    /** Days till this one, in which no quota or licence is used. */
    static Step day(int day) {
        return x -> passTo(x, day);
    }

    /** In the season 1, with a licence and the net 0, notes of these weights on the page 0, which has this quota. */
    static Step floating(int quota, int... weights) {
        return x -> {
            passTo(x, 30);
            x.buyLicence();
            x.setQuota(0, quota);
            x.addNet(0, 1, 1);
            for (int weight : weights) {
                x.addNote(0, weight);
            }
        };
    }

    /** As floating, with all these notes in the hold. */
    static Step held(int quota, int... weights) {
        return both(floating(quota, weights), x -> x.haul(0));
    }

    static Step both(Step first, Step second) {
        return x -> {
            first.on(x);
            second.on(x);
        };
    }

    static void passTo(FootnoteFishery x, int day) {
        for (int left = day - x.day(); left > 0; left -= 40) {
            x.pass(Math.min(left, 40));
        }
    }

    static void feed(FootnoteFishery x, String text) {
        for (char sign : text.toCharArray()) {
            x.feed(sign);
        }
    }

    static int run(FootnoteFishery x, String text) {
        feed(x, text);
        return x.execute();
    }

    // ---- answers

    static void eq(String what, long got, long want) {
        Check.equal(what, got, want);
    }

    /** The states of all notes, a character each. */
    static String states(FootnoteFishery x) {
        StringBuilder text = new StringBuilder();
        for (int note = 0; note < x.noteCount(); note++) {
            text.append(x.stateOf(note));
        }
        return text.toString();
    }

    /** The pages that a net covers, in ascending order. */
    static String pagesOf(FootnoteFishery x, int net) {
        List<Integer> pages = new ArrayList<>();
        for (int page = 0; page < 12; page++) {
            if (x.covers(net, page)) {
                pages.add(page);
            }
        }
        return pages.toString();
    }

    static int[] times(int count, int value) {
        int[] row = new int[count];
        Arrays.fill(row, value);
        return row;
    }
}
