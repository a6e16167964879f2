import java.lang.reflect.Constructor;
import java.lang.reflect.Field;
import java.lang.reflect.Method;
import java.lang.reflect.Modifier;
import java.util.Set;
import java.util.TreeSet;

/** The public face: exactly the members of the document, with their exceptions. */
public final class FaceTest {
    private static final String[] FACE = {
        "int addNote(int,int) IllegalArgumentException UnsupportedOperationException",
        "int cite(int,int) IllegalArgumentException NoSuchElementException UnsupportedOperationException",
        "int uncite(int,int) IllegalArgumentException NoSuchElementException UnsupportedOperationException",
        "int noteCount()",
        "int pageOf(int) NoSuchElementException",
        "int weightOf(int) NoSuchElementException",
        "char stateOf(int) NoSuchElementException",
        "int citedBy(int) NoSuchElementException",
        "boolean doesCite(int,int) NoSuchElementException",
        "boolean reaches(int,int) NoSuchElementException",
        "int circles()",
        "int circlesByTable()",
        "int circleSize(int) NoSuchElementException",
        "int index()",
        "int indexByCounts()",
        "int noteByCitations(int) NoSuchElementException",
        "int setCurrent(int,int) IllegalArgumentException",
        "int setQuota(int,int) IllegalArgumentException",
        "int current(int) IllegalArgumentException",
        "int quota(int) IllegalArgumentException",
        "int room(int) IllegalArgumentException",
        "int floatingOn(int) IllegalArgumentException",
        "int addNet(int,int,int) IllegalArgumentException UnsupportedOperationException",
        "int removeNet(int) IndexOutOfBoundsException",
        "int haul(int) IndexOutOfBoundsException UnsupportedOperationException",
        "int netCount()",
        "boolean covers(int,int) IllegalArgumentException IndexOutOfBoundsException",
        "int catchSize(int) IndexOutOfBoundsException",
        "int bestNet() NoSuchElementException",
        "int land() UnsupportedOperationException",
        "int free(int) NoSuchElementException UnsupportedOperationException",
        "int heldCount()",
        "int bestLanding()",
        "int bestLandingBySets()",
        "boolean wouldLand(int) NoSuchElementException",
        "int buyLicence() UnsupportedOperationException",
        "int pass(int) IllegalArgumentException",
        "boolean hasLicence()",
        "int day()",
        "int season()",
        "int coins()",
        "int caught()",
        "int landed()",
        "int returned()",
        "double meanWeight() ArithmeticException",
        "float landedShare() ArithmeticException",
        "int feed(char) IllegalStateException",
        "int execute() IllegalArgumentException UnsupportedOperationException",
        "int faultPosition() NoSuchElementException",
        "int writeNote(int) NoSuchElementException",
        "char lineCharacter(int) IndexOutOfBoundsException",
        "int denial() NoSuchElementException",
        "int denialDetail() NoSuchElementException",
        "int denialCause() NoSuchElementException",
        "int undo() IllegalStateException",
        "int undoCount()",
        "int saveSnapshot()",
        "int restoreSnapshot() IllegalStateException",
    };

    private FaceTest() {
    }

    public static void main(String[] args) {
        Class<?> face = FootnoteFishery.class;
        Check.that("public final", Modifier.isPublic(face.getModifiers()) && Modifier.isFinal(face.getModifiers()));
        Check.that("no superclass of its own", face.getSuperclass() == Object.class);
        Check.equal("no interfaces", face.getInterfaces().length, 0);
        checkConstructors(face);
        checkMethods(face);
        for (Field field : face.getDeclaredFields()) {
            int modifiers = field.getModifiers();
            Check.that(field.getName() + " is private", Modifier.isPrivate(modifiers));
            Check.that(field.getName() + " is final if static", !Modifier.isStatic(modifiers) || Modifier.isFinal(modifiers));
        }
        for (Class<?> inside : face.getDeclaredClasses()) {
            int modifiers = inside.getModifiers();
            Check.that(inside.getName() + " is static", Modifier.isStatic(modifiers));
            Check.that(inside.getName() + " is not public", !Modifier.isPublic(modifiers) && !Modifier.isProtected(modifiers));
        }
        Check.end("FaceTest");
    }

    private static void checkConstructors(Class<?> face) {
        Constructor<?>[] constructors = face.getDeclaredConstructors();
        Check.equal("one constructor", constructors.length, 1);
        Check.equal("without parameters", constructors[0].getParameterCount(), 0);
        Check.equal("without exceptions", constructors[0].getExceptionTypes().length, 0);
        Check.that("public constructor", Modifier.isPublic(constructors[0].getModifiers()));
    }

    private static void checkMethods(Class<?> face) {
        Set<String> wanted = new TreeSet<>(Set.of(FACE));
        Set<String> names = new TreeSet<>();
        for (String line : FACE) {
            names.add(line.substring(line.indexOf(' ') + 1, line.indexOf('(')));
        }
        Set<String> found = new TreeSet<>();
        for (Method method : face.getDeclaredMethods()) {
            if (Modifier.isPublic(method.getModifiers())) {
                found.add(describe(method));
            } else {
                Check.that(method + " is private", Modifier.isPrivate(method.getModifiers()));
                Check.that(method + " has a name of its own", !names.contains(method.getName()));
            }
        }
        Check.same("the face", found.toString(), wanted.toString());
    }

    private static String describe(Method method) {
        StringBuilder text = new StringBuilder(method.getReturnType().getSimpleName());
        text.append(' ').append(method.getName()).append('(');
        String separator = "";
        for (Class<?> parameter : method.getParameterTypes()) {
            text.append(separator).append(parameter.getSimpleName());
            separator = ",";
        }
        text.append(')');
        Set<String> exceptions = new TreeSet<>();
        for (Class<?> exception : method.getExceptionTypes()) {
            exceptions.add(exception.getSimpleName());
        }
        for (String exception : exceptions) {
            text.append(' ').append(exception);
        }
        return text.toString();
    }
}
