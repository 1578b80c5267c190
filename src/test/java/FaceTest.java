import java.lang.reflect.Array;
import java.lang.reflect.Constructor;
import java.lang.reflect.Field;
import java.lang.reflect.Method;
import java.lang.reflect.Modifier;
import java.util.ArrayList;
import java.util.Collections;
import java.util.IdentityHashMap;
import java.util.List;
import java.util.Set;
import java.util.TreeSet;

/** The members of the class are those of the document and no others; an object is small and does not grow. */
public final class FaceTest {
    private static final Set<String> FACE = new TreeSet<>(List.of(
        "int track()", "int sample(int, int, long, int)", "int clear()", "int write(int, int)", "int read()",
        "int place()", "int tracks()", "int samples(int)", "int size(int, int)", "long time(int, int)",
        "long bytes(int, int)", "int length()", "int at(int)", "boolean poke(int, int)", "int append(long, int)",
        "boolean cut(int)"));
    // The room that all calls of a run share, and a new object for each of 512 calls at the worst.
    private static final int ROOM_OBJECTS = 600_000;
    private static final int ROOM_CELLS = 7_300_000;
    private static final int MOST_CALLS = 512;
    private static int wrong = 0;

    public static void main(String[] args) throws IllegalAccessException {
        Class<?> face = ReelOfBoxes.class;
        mustBe("the class is public and final",
            Modifier.isPublic(face.getModifiers()) && Modifier.isFinal(face.getModifiers()));
        methods(face);
        fields(face);
        Constructor<?>[] constructors = face.getDeclaredConstructors();
        mustBe("one public constructor without parameters", constructors.length == 1
            && Modifier.isPublic(constructors[0].getModifiers()) && constructors[0].getParameterCount() == 0);
        for (Class<?> inside : face.getDeclaredClasses()) {
            int bits = inside.getModifiers();
            mustBe(inside + " is static and not public",
                Modifier.isStatic(bits) && !Modifier.isPublic(bits) && !Modifier.isProtected(bits));
            for (Method method : inside.getDeclaredMethods()) {
                mustBe(method + " has a name of its own", !namesOfFace().contains(method.getName()));
            }
        }
        room();
        System.out.println(wrong == 0 ? "the face is as due" : wrong + " things are wrong");
        if (wrong != 0) {
            System.exit(1);
        }
    }

    private static void mustBe(String what, boolean isRight) {
        if (!isRight) {
            wrong++;
            System.out.println("not so: " + what);
        }
    }

    private static Set<String> namesOfFace() {
        Set<String> names = new TreeSet<>();
        for (String line : FACE) {
            names.add(line.substring(line.indexOf(' ') + 1, line.indexOf('(')));
        }
        return names;
    }

    private static void methods(Class<?> face) {
        Set<String> seen = new TreeSet<>();
        for (Method method : face.getDeclaredMethods()) {
            if (Modifier.isPrivate(method.getModifiers())) {
                mustBe(method + " has a name of its own", !namesOfFace().contains(method.getName()));
            } else {
                List<String> types = new ArrayList<>();
                for (Class<?> type : method.getParameterTypes()) {
                    types.add(type.getName());
                }
                seen.add(method.getReturnType().getName() + " " + method.getName() + "(" + String.join(", ", types) + ")");
                mustBe(method + " is public and no static one, and throws nothing",
                    Modifier.isPublic(method.getModifiers()) && !Modifier.isStatic(method.getModifiers())
                        && method.getExceptionTypes().length == 0);
            }
        }
        mustBe("the methods are " + FACE + " but not " + seen, seen.equals(FACE));
    }

    private static void fields(Class<?> face) {
        for (Field field : face.getDeclaredFields()) {
            int bits = field.getModifiers();
            if (field.getName().equals("NONE")) {
                mustBe("NONE is public static final int", Modifier.isPublic(bits) && Modifier.isStatic(bits)
                    && Modifier.isFinal(bits) && field.getType() == int.class);
            } else {
                mustBe(field + " is private", Modifier.isPrivate(bits));
            }
            mustBe(field + " is final if static", !Modifier.isStatic(bits) || Modifier.isFinal(bits));
        }
    }

    /** Objects and arrays, and fields and elements, that can be reached. */
    private static int[] count(Object root) throws IllegalAccessException {
        Set<Object> seen = Collections.newSetFromMap(new IdentityHashMap<>());
        List<Object> open = new ArrayList<>(List.of(root));
        int cells = 0;
        seen.add(root);
        while (!open.isEmpty()) {
            Object at = open.remove(open.size() - 1);
            List<Object> parts = new ArrayList<>();
            if (at.getClass().isArray()) {
                cells += Array.getLength(at);
                for (int i = 0; i < Array.getLength(at) && !at.getClass().getComponentType().isPrimitive(); i++) {
                    parts.add(Array.get(at, i));
                }
            } else {
                for (Field field : at.getClass().getDeclaredFields()) {
                    if (!Modifier.isStatic(field.getModifiers())) {
                        cells++;
                        field.setAccessible(true);
                        if (!field.getType().isPrimitive()) {
                            parts.add(field.get(at));
                        }
                    }
                }
            }
            for (Object part : parts) {
                if (part != null && seen.add(part)) {
                    open.add(part);
                }
            }
        }
        return new int[] {seen.size(), cells};
    }

    private static void room() throws IllegalAccessException {
        ReelOfBoxes x = new ReelOfBoxes();
        int[] before = count(x);
        System.out.println("an object: " + before[0] + " objects and arrays, " + before[1] + " fields and elements");
        mustBe("a new object for each call leaves room", before[0] * MOST_CALLS * 2 < ROOM_OBJECTS
            && before[1] * MOST_CALLS * 2 < ROOM_CELLS);
        for (int i = 0; i < 100; i++) {
            x.track();
            x.sample(i % 3, i, i, i % 9);
            x.write(1 + i % 16, i % 4);
            x.read();
        }
        int[] after = count(x);
        mustBe("an object does not grow", before[0] == after[0] && before[1] == after[1]);
    }
}
