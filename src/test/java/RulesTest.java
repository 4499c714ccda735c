import java.lang.reflect.Constructor;
import java.lang.reflect.Field;
import java.lang.reflect.Method;
import java.lang.reflect.Modifier;
import java.nio.file.Files;
import java.nio.file.Path;
import java.util.ArrayList;
import java.util.List;
import java.util.Set;
import java.util.TreeSet;

// The document's face, no more and no less, and what of LANGUAGE.md can be seen from outside or in the text.
public final class RulesTest {
    private static final String[] FACE = {
        "int write(int)", "int erase()", "int fault()", "int house()", "int sound(int,int,int)", "int span(int,int,int)",
        "int tone(int,int,int)", "int put(int,int,int,int,int)", "int fade(int,int,int,int)", "int gain(int,int,int)",
        "int wipe(int,int,int)", "int cut(int,int)", "int move(int,int,int)", "int shift(int,int)", "int shut(int)",
        "int bounce(int,int)", "int undo(int)", "int keep(int)", "int back(int)", "int heard(int)", "long exact(int)",
        "long sum(int,int)", "int played(int,int)", "int covers(int,int,int)", "int rack(int,int,int)",
        "int hang(int,int,int,int)", "int take(int,int)", "int likeness(int,int)", "int pass(int,int)", "int drop(int)",
        "int count(int)",
    };
    private static final String[] CONSTANTS = {
        "NONE=-1", "UNKNOWN=-2000000001", "OUTSIDE=-2000000002", "NOT=-2000000003", "FULL=-2000000004",
        "NULL=-2000000011", "SIZE=-2000000012", "INDEX=-2000000013", "STORE=-2000000014", "EMPTY=-2000000015",
    };
    private static final String[] BANNED = {
        "package ", "->", "::", "finally", "synchronized", "assert ", "System.out", "System.nano", "System.current", "Float.",
        "Double.", "Exact(", "native ", "var ", "protected ", "hashCode", "Random", "NullPointer", "ArrayIndex", "ClassCast",
    };
    private static final int MOST_LINES = 60;
    private static final int MOST_CLASSES = 12;

    private static int wrong = 0;

    private static void expect(boolean holds, String what) {
        if (!holds) {
            wrong++;
            System.out.println("not so: " + what);
        }
    }

    private static String face(Method method) {
        List<String> types = new ArrayList<>();
        for (Class<?> type : method.getParameterTypes()) types.add(type.getName());
        return method.getReturnType().getName() + " " + method.getName() + "(" + String.join(",", types) + ")";
    }

    private static void lookAtFace() throws IllegalAccessException {
        Class<?> house = TapeHouse.class;
        expect(Modifier.isPublic(house.getModifiers()) && Modifier.isFinal(house.getModifiers()), "the class is public and final");
        Set<String> methods = new TreeSet<>();
        Set<String> names = new TreeSet<>();
        for (Method method : house.getDeclaredMethods()) {
            if (Modifier.isPublic(method.getModifiers())) {
                methods.add(face(method));
                names.add(method.getName());
                expect(!Modifier.isStatic(method.getModifiers()), method.getName() + " is not static");
                expect(method.getExceptionTypes().length == 0, method.getName() + " declares no exception");
            } else {
                expect(Modifier.isPrivate(method.getModifiers()), method.getName() + " is private");
            }
        }
        expect(methods.equals(new TreeSet<>(List.of(FACE))), "the public methods are the document's: " + methods);
        for (Method method : house.getDeclaredMethods()) {
            expect(Modifier.isPublic(method.getModifiers()) || !names.contains(method.getName()), method.getName() + " is no public one's name");
        }
        Set<String> constants = new TreeSet<>();
        for (Field field : house.getDeclaredFields()) {
            if (Modifier.isPublic(field.getModifiers())) {
                expect(Modifier.isStatic(field.getModifiers()) && Modifier.isFinal(field.getModifiers()), field.getName() + " is a constant");
                constants.add(field.getName() + "=" + field.getInt(null));
            } else {
                expect(Modifier.isPrivate(field.getModifiers()), field.getName() + " is private");
            }
        }
        expect(constants.equals(new TreeSet<>(List.of(CONSTANTS))), "the constants are the document's: " + constants);
        Constructor<?>[] constructors = house.getDeclaredConstructors();
        expect(constructors.length == 1 && Modifier.isPublic(constructors[0].getModifiers()) && constructors[0].getParameterCount() == 0, "one public constructor");
        expect(house.getDeclaredClasses().length <= MOST_CLASSES, "few classes inside");
        for (Class<?> inside : house.getDeclaredClasses()) {
            expect(Modifier.isStatic(inside.getModifiers()), inside.getName() + " is static");
            for (Method method : inside.getDeclaredMethods()) {
                expect(!names.contains(method.getName()), inside.getName() + "." + method.getName() + " is no public one's name");
                expect(method.getParameterCount() <= 7, method.getName() + " has at most seven parameters");
            }
        }
    }

    private static void lookAtText(Path file) throws java.io.IOException {
        int number = 0;
        int begun = 0;
        for (String line : Files.readAllLines(file)) {
            number++;
            String code = line.strip();
            if (code.startsWith("//") || code.startsWith("*") || code.startsWith("/*")) continue;
            for (String word : BANNED) expect(!code.contains(word), "line " + number + " is without '" + word + "'");
            if (code.endsWith(") {") && (code.startsWith("private ") || code.startsWith("public "))) begun = number;
            expect(begun == 0 || number - begun <= MOST_LINES || !code.equals("}"), "the method of line " + begun + " is short");
            if (line.equals("    }") || line.equals("        }")) begun = 0;
        }
        expect(number > 0, "the file has lines");
    }

    // What 512 calls of the dearest kinds make stays far below the room that all calls of a run have together.
    private static void lookAtRoom() {
        com.sun.management.ThreadMXBean bean = (com.sun.management.ThreadMXBean) java.lang.management.ManagementFactory.getThreadMXBean();
        long me = Thread.currentThread().getId();
        TapeHouse x = new TapeHouse();
        x.tone(1, 1, 64);
        long before = bean.getThreadAllocatedBytes(me);
        x = new TapeHouse();
        x.tone(1, 1, 64);
        for (int i = 0; i < 120; i++) {
            x.put(0, 0, 0, 64, i % 2 * 30);
            x.put(0, 0, 0, 2, 20 + i % 7);
            x.move(0, 0, i % 5);
            x.count(6);
        }
        long made = bean.getThreadAllocatedBytes(me) - before;
        expect(made < 200_000, "a run makes little: " + made + " bytes");
    }

    public static void main(String[] args) throws Exception {
        lookAtFace();
        lookAtText(Path.of(args.length > 0 ? args[0] : "src/main/java/TapeHouse.java"));
        lookAtRoom();
        System.out.println(wrong == 0 ? "the face and the rules are as due" : wrong + " rules are not kept");
        if (wrong != 0) System.exit(1);
    }
}
