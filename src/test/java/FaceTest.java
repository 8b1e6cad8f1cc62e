import java.lang.reflect.Array;
import java.lang.reflect.Constructor;
import java.lang.reflect.Field;
import java.lang.reflect.Method;
import java.lang.reflect.Modifier;
import java.util.ArrayDeque;
import java.util.ArrayList;
import java.util.Arrays;
import java.util.Collections;
import java.util.Deque;
import java.util.IdentityHashMap;
import java.util.List;
import java.util.Set;

/** The public face is the document's, with nothing beside it, and a keeper takes little room for good. */
public final class FaceTest {
    private static final String I = "IndexOutOfBoundsException";
    private static final String A = "IllegalArgumentException";

    private static final List<String> FACE = List.of(
        "int append(int,int,int,int,int)", "int parse(int) " + A, "int size(int) " + A,
        "int line(int,int,int) " + A + " " + I, "int letter(int,int,int,int) " + A + " " + I,
        "int author(boolean,int,int) " + I, "int change(int,int,int) " + I + " " + A, "boolean meet(int,int) " + I,
        "int block(int,int) " + I + " " + A, "int common(int,int,int,int) " + A + " " + I,
        "int occurrences(int,int) " + A, "float share(int) " + A, "double meanWords(int) " + A,
        "int safeLines(int) " + I, "boolean wouldClash(int,int) " + I, "int fewestBack()", "int fewestWords()",
        "int mostWords()", "int insert(int,int,int) " + I + " " + A, "int replace(int,int,int) " + I + " " + A,
        "int delete(int,int) " + I, "int deleteWord(int,int,int) " + I, "int move(int,int,int) " + I,
        "int takeBack(int,int) " + I, "int decide(int,int) " + I + " " + A, "int join()", "int discard(int) " + I,
        "int adopt(int) " + I, "int report(int) " + A, "int reportByte(int)", "int undo()",
        "boolean saveSnapshot(int) " + A, "int restoreSnapshot(int) " + A + " NoSuchElementException",
        "long checksum()");

    private static final Checks CHECKS = new Checks();

    public static void main(String[] args) throws ReflectiveOperationException {
        CHECKS.begin("face");
        due(true, Modifier.isFinal(SpeechKeeper.class.getModifiers()));
        due(true, Modifier.isPublic(SpeechKeeper.class.getModifiers()));
        methods();
        fields();
        constructors();
        classesInside();
        room();
        CHECKS.end("FaceTest");
    }

    private static void due(Object want, Object got) {
        CHECKS.due(want, got);
    }

    private static String signature(Method method) {
        List<String> parameters = new ArrayList<>();
        for (Class<?> type : method.getParameterTypes()) {
            parameters.add(type.getSimpleName());
        }
        StringBuilder signature = new StringBuilder(method.getReturnType().getSimpleName() + " " + method.getName());
        signature.append('(').append(String.join(",", parameters)).append(')');
        for (Class<?> type : method.getExceptionTypes()) {
            signature.append(' ').append(type.getSimpleName());
        }
        return signature.toString();
    }

    private static void methods() {
        List<String> names = new ArrayList<>();
        List<String> open = new ArrayList<>();
        for (String signature : FACE) {
            names.add(signature.substring(signature.indexOf(' ') + 1, signature.indexOf('(')));
        }
        for (Method method : SpeechKeeper.class.getDeclaredMethods()) {
            if (Modifier.isPrivate(method.getModifiers())) {
                due(false, names.contains(method.getName()));
            } else {
                due(Modifier.PUBLIC, method.getModifiers());
                open.add(signature(method));
            }
        }
        List<String> want = new ArrayList<>(FACE);
        Collections.sort(want);
        Collections.sort(open);
        due(want, open);
    }

    private static void fields() {
        for (Field field : SpeechKeeper.class.getDeclaredFields()) {
            boolean isNone = field.getName().equals("NONE");
            due(isNone, Modifier.isPublic(field.getModifiers()));
            due(!isNone, Modifier.isPrivate(field.getModifiers()));
            due(true, !Modifier.isStatic(field.getModifiers()) || Modifier.isFinal(field.getModifiers()));
        }
    }

    private static void constructors() {
        Constructor<?>[] constructors = SpeechKeeper.class.getDeclaredConstructors();
        due(1, constructors.length);
        due(Modifier.PUBLIC, constructors[0].getModifiers());
        due(0, constructors[0].getParameterCount());
    }

    private static void classesInside() {
        Class<?>[] inside = SpeechKeeper.class.getDeclaredClasses();
        due(true, inside.length < 12);
        for (Class<?> one : inside) {
            due(true, Modifier.isStatic(one.getModifiers()));
            due(false, Modifier.isPublic(one.getModifiers()) || Modifier.isProtected(one.getModifiers()));
            for (Method method : one.getDeclaredMethods()) {
                due(false, Arrays.asList("equals", "hashCode", "toString").contains(method.getName()));
            }
        }
    }

    // ---- room

    private static void room() throws ReflectiveOperationException {
        CHECKS.begin("room");
        SpeechKeeper keeper = Checks.of("base a/b/c/d; one a/x/c/d/e; two a/y/z/c/d/e;");
        long fresh = roomOf(keeper);
        due(true, fresh < 60_000);
        for (int i = 0; i < 60; i++) {
            keeper.insert(i % 2, 0, Checks.type(keeper, "to be or not"));
            keeper.decide(0, 1);
            keeper.join();
            keeper.report(3);
            keeper.saveSnapshot(i % 2);
            keeper.checksum();
        }
        due(fresh, roomOf(keeper));
    }

    /** The fields and elements of all that an object holds. */
    private static long roomOf(Object object) throws ReflectiveOperationException {
        Set<Object> seen = Collections.newSetFromMap(new IdentityHashMap<>());
        Deque<Object> open = new ArrayDeque<>(List.of(object));
        long room = 0;
        while (!open.isEmpty()) {
            Object one = open.pop();
            if (!seen.add(one)) {
                continue;
            }
            room += one.getClass().isArray() ? Array.getLength(one) : one.getClass().getDeclaredFields().length;
            for (Object part : partsOf(one)) {
                if (part != null) {
                    open.push(part);
                }
            }
        }
        return room;
    }

    private static List<Object> partsOf(Object one) throws ReflectiveOperationException {
        if (one instanceof Object[] array) {
            return Arrays.asList(array);
        }
        List<Object> parts = new ArrayList<>();
        for (Field field : one.getClass().getDeclaredFields()) {
            if (!field.getType().isPrimitive() && !Modifier.isStatic(field.getModifiers())) {
                field.setAccessible(true);
                parts.add(field.get(one));
            }
        }
        return parts;
    }
}
