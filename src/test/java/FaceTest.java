import java.lang.reflect.Constructor;
import java.lang.reflect.Field;
import java.lang.reflect.Member;
import java.lang.reflect.Method;
import java.lang.reflect.Modifier;
import java.util.Arrays;
import java.util.Set;
import java.util.TreeSet;

/** The public face is the one of the document, and nothing else can be seen from outside. */
public final class FaceTest {
    private static final String FACE = """
            public int append(int a, int b, int c, int d, int e);
            public boolean truncate(int length);
            public int bufferLength();
            public int define();
            public int threadCount();
            public int locationCount();
            public int instructionCount();
            public int instruction(int instruction, int what) throws IndexOutOfBoundsException;
            public int findLocation();
            public int write();
            public int outputByte(int index) throws NoSuchElementException;
            public int outcomeCount(int model) throws IllegalArgumentException;
            public int outcome(int model, int index) throws IllegalArgumentException;
            public boolean hasOutcome(int model, int code) throws IllegalArgumentException;
            public int extraOutcomes(int model, int other) throws IllegalArgumentException;
            public boolean fulfils(int code);
            public int matchCount(int model) throws IllegalArgumentException;
            public int firstMatch(int model) throws IllegalArgumentException;
            public int stateCount(int model) throws IllegalArgumentException;
            public long executionCount(int model) throws IllegalArgumentException;
            public long executionsWith(int model, int code) throws IllegalArgumentException;
            public int readValues(int model, int instruction) throws IllegalArgumentException, IndexOutOfBoundsException, NoSuchElementException;
            public int finalValues(int model, int location) throws IllegalArgumentException, IndexOutOfBoundsException;
            public int greatestBuffer(int model, int thread) throws IllegalArgumentException, IndexOutOfBoundsException;
            public boolean isRace(int first, int second) throws IndexOutOfBoundsException;
            public int raceCount();
            public int gapCount();
            public int gapBefore(int gap);
            public int matchesWith(int model, int gaps) throws IllegalArgumentException;
            public int fewestFences(int model) throws IllegalArgumentException;
            public int repairingFences(int model) throws IllegalArgumentException;
            public boolean isFenceNeeded(int model, int instruction) throws IllegalArgumentException, IndexOutOfBoundsException, NoSuchElementException;
            public int insertFence(int gap) throws IndexOutOfBoundsException, IllegalStateException;
            public int removeFence(int instruction) throws IndexOutOfBoundsException, NoSuchElementException;
            public int undo();
            public int explain(int model, int code) throws IllegalArgumentException;
            public int step(int index);
            public int readsFrom(int instruction) throws IndexOutOfBoundsException, NoSuchElementException;
            public int writtenBy(int location, int index) throws IndexOutOfBoundsException;
            """;

    public static void main(String[] args) {
        methods();
        others();
        Check.end();
    }

    private static void methods() {
        Set<String> due = new TreeSet<>();
        Set<String> names = new TreeSet<>();
        for (String line : FACE.split("\n")) {
            // The names of the parameters are not kept in a class file.
            due.add(line.replace(";", "").replaceAll("(int|long|boolean) \\w+(?=[,)])", "$1").trim());
            names.add(line.replaceAll(".* (\\w+)\\(.*", "$1"));
        }
        Set<String> found = new TreeSet<>();
        for (Method method : LitmusTester.class.getDeclaredMethods()) {
            if (isVisible(method)) {
                String thrown = String.join(", ", Arrays.stream(method.getExceptionTypes()).map(Class::getSimpleName).toList());
                String parameters = String.join(", ", Arrays.stream(method.getParameterTypes()).map(Class::getSimpleName).toList());
                found.add(Modifier.toString(method.getModifiers()) + " " + method.getReturnType().getSimpleName() + " "
                        + method.getName() + "(" + parameters + ")" + (thrown.isEmpty() ? "" : " throws " + thrown));
            } else {
                Check.no("a private " + method.getName(), names.contains(method.getName()));
            }
        }
        for (Class<?> inner : LitmusTester.class.getDeclaredClasses()) {
            for (Method method : inner.getDeclaredMethods()) {
                Check.no("inside, a " + method.getName(), names.contains(method.getName()));
            }
        }
        Check.equal("methods", found, due);
        Check.equal("their number", found.size(), 39);
    }

    private static boolean isVisible(Member member) {
        return !member.isSynthetic() && !Modifier.isPrivate(member.getModifiers());
    }

    private static void others() {
        Check.equal("the class", Modifier.toString(LitmusTester.class.getModifiers()), "public final");
        for (Field field : LitmusTester.class.getDeclaredFields()) {
            Check.equal("visible field " + field.getName(), isVisible(field), field.getName().equals("NONE"));
            boolean isStatic = Modifier.isStatic(field.getModifiers());
            Check.yes("final " + field.getName(), !isStatic || Modifier.isFinal(field.getModifiers()));
        }
        Constructor<?>[] constructors = LitmusTester.class.getDeclaredConstructors();
        Check.equal("constructors", constructors.length, 1);
        Check.equal("constructor", constructors[0].toString(), "public LitmusTester()");
        for (Class<?> inner : LitmusTester.class.getDeclaredClasses()) {
            Check.yes("static " + inner, Modifier.isStatic(inner.getModifiers()));
            Check.no("public " + inner, Modifier.isPublic(inner.getModifiers()));
        }
        Check.yes("some twelve classes", LitmusTester.class.getDeclaredClasses().length <= 12);
    }
}
