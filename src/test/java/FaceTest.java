import java.lang.reflect.Constructor;
import java.lang.reflect.Field;
import java.lang.reflect.Method;
import java.lang.reflect.Modifier;
import java.nio.file.Files;
import java.nio.file.Path;
import java.util.Arrays;
import java.util.HashSet;
import java.util.List;
import java.util.Set;
import java.util.TreeSet;

/** The public face of the document, and the rules of LANGUAGE.md that a program can look at. */
final class FaceTest {
    private static final String[] FACE = {
        "int feed(int, int, int, int, int)", "boolean end(int)", "int fault()", "boolean circuit(int)",
        "boolean arbiter(int, int, boolean)", "boolean stuck(int, boolean)", "int asked(int)", "int states()",
        "int state(int)", "int place(int)", "int hazard(int, int)", "int stop(int)", "int way(int)",
        "int change(int, int)", "int live(int)", "int both(int)", "int run(int, long)",
        "int changed(int, long, int)", "int node(int)", "int arc(int, int, int)", "boolean tokens(int, int)",
        "void clear()", "int dead()", "long turn(int)",
        "int time(int, int) throws java.util.NoSuchElementException", "int helps()", "int count(int)"};
    /** Some 600,000 objects and 7.3 million elements are there for a run; an object takes this at most. */
    private static final int OBJECTS_OF_ONE = 100;
    private static final int ELEMENTS_OF_ONE = 40000;

    private static final Due DUE = new Due();
    private static int objects;
    private static int elements;

    public static void main(String[] args) throws Exception {
        publicMembers();
        namesOfTheFaceAreItsOwn();
        sizeOfOneObject();
        wordsLeftOut();
        DUE.finish();
    }

    private static void publicMembers() {
        DUE.is("the class is public and final", GateWalk.class.getModifiers(), Modifier.PUBLIC | Modifier.FINAL);
        Set<String> found = new TreeSet<>();
        for (Method method : GateWalk.class.getDeclaredMethods()) {
            if (!Modifier.isPrivate(method.getModifiers()) && !method.isSynthetic()) {
                StringBuilder face = new StringBuilder(method.getReturnType() + " " + method.getName() + "(");
                face.append(Arrays.toString(method.getParameterTypes()).replaceAll("[\\[\\]]", "")).append(")");
                for (Class<?> thrown : method.getExceptionTypes()) {
                    face.append(" throws ").append(thrown.getName());
                }
                found.add(face.toString());
                DUE.is(method + " is public alone", method.getModifiers(), Modifier.PUBLIC);
            }
        }
        Set<String> want = new TreeSet<>(List.of(FACE));
        DUE.is("methods " + found + ", due are " + want, found.equals(want), true);
        constant();
        for (Field field : GateWalk.class.getDeclaredFields()) {
            boolean isPrivate = Modifier.isPrivate(field.getModifiers());
            DUE.is("field " + field, isPrivate, !field.getName().equals("NONE"));
            boolean ends = !Modifier.isStatic(field.getModifiers()) || Modifier.isFinal(field.getModifiers());
            DUE.is("a static field is final: " + field, ends, true);
        }
        Constructor<?>[] made = GateWalk.class.getDeclaredConstructors();
        DUE.is("constructors", made.length, 1);
        DUE.is("public, without parameters", made[0].getModifiers() + made[0].getParameterCount(), Modifier.PUBLIC);
        for (Class<?> inside : GateWalk.class.getDeclaredClasses()) {
            DUE.is(inside + " is static", Modifier.isStatic(inside.getModifiers()), true);
            DUE.is(inside + " is not public", Modifier.isPublic(inside.getModifiers()), false);
        }
    }

    private static void constant() {
        DUE.is("NONE", GateWalk.NONE, -1);
        for (Field field : GateWalk.class.getDeclaredFields()) {
            if (field.getName().equals("NONE")) {
                int due = Modifier.PUBLIC | Modifier.STATIC | Modifier.FINAL;
                DUE.is("NONE is public, static and final", field.getModifiers(), due);
                DUE.is("NONE is an int", field.getType() == int.class, true);
            }
        }
    }

    private static void namesOfTheFaceAreItsOwn() {
        Set<String> face = new HashSet<>();
        for (String method : FACE) {
            face.add(method.replaceAll("^\\w+ (\\w+)\\(.*", "$1"));
        }
        Set<Class<?>> all = new HashSet<>(List.of(GateWalk.class.getDeclaredClasses()));
        all.add(GateWalk.class);
        DUE.is("at most twelve classes", all.size() <= 12, true);
        for (Class<?> one : all) {
            for (Method method : one.getDeclaredMethods()) {
                boolean own = one == GateWalk.class && Modifier.isPublic(method.getModifiers());
                DUE.is("name of " + method, own || !face.contains(method.getName()), true);
                DUE.is("parameters of " + method, method.getParameterCount() <= 7, true);
            }
            long fields = Arrays.stream(one.getDeclaredFields())
                    .filter(field -> !Modifier.isStatic(field.getModifiers())).count();
            DUE.is("at most twenty fields in " + one, fields <= 20, true);
        }
    }

    private static void sizeOfOneObject() throws Exception {
        weigh(new GateWalk(), new HashSet<>());
        DUE.is(objects + " objects", objects <= OBJECTS_OF_ONE, true);
        DUE.is(elements + " elements", elements <= ELEMENTS_OF_ONE, true);
    }

    /** The parts are few and hold no like ones, so that telling them apart by address is enough. */
    private static void weigh(Object one, Set<Integer> seen) throws Exception {
        if (one == null || !seen.add(System.identityHashCode(one))) {
            return;
        }
        objects++;
        if (one.getClass().isArray()) {
            int length = java.lang.reflect.Array.getLength(one);
            elements += length;
            for (int i = 0; i < length && !one.getClass().getComponentType().isPrimitive(); i++) {
                weigh(java.lang.reflect.Array.get(one, i), seen);
            }
            return;
        }
        for (Field field : one.getClass().getDeclaredFields()) {
            if (!Modifier.isStatic(field.getModifiers())) {
                elements++;
                field.setAccessible(true);
                if (!field.getType().isPrimitive()) {
                    weigh(field.get(one), seen);
                }
            }
        }
    }

    /** Run from the project's folder, as .ci/run does. */
    private static void wordsLeftOut() throws Exception {
        String source = Files.readString(Path.of("src/main/java/GateWalk.java"));
        String[] words = {"package ", "->", "::", "finally", "catch", "synchronized", "assert ", "Exact", "instanceof",
            "System.", "Random", "Thread", "double", "float", "protected"};
        for (String word : words) {
            DUE.is("the word " + word, source.contains(word), false);
        }
        for (String line : source.split("\n")) {
            boolean allowed = !line.startsWith("import ") || line.equals("import java.util.Arrays;")
                    || line.equals("import java.util.NoSuchElementException;");
            DUE.is(line, allowed, true);
        }
    }
}
