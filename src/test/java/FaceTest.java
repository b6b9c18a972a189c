import java.lang.reflect.Constructor;
import java.lang.reflect.Field;
import java.lang.reflect.Method;
import java.lang.reflect.Modifier;
import java.nio.file.Files;
import java.nio.file.Path;
import java.util.ArrayList;
import java.util.Arrays;
import java.util.List;
import java.util.TreeSet;
import java.util.stream.Collectors;

/** The public face and its constants, and the rules of the language that can be seen from outside. */
public final class FaceTest {
    private static final Expect EXPECT = new Expect();
    private static final String BOUNDS = "IndexOutOfBoundsException", ARGUMENT = "IllegalArgumentException", STATE = "IllegalStateException";
    private static final String[] METHODS = {
        "int step(int, int, int, int) " + BOUNDS + " " + ARGUMENT + " " + STATE,
        "int channel(int, int, int) " + BOUNDS + " " + ARGUMENT + " " + STATE,
        "int op(int, int, int, int) " + BOUNDS + " " + ARGUMENT + " " + STATE,
        "int unop(int) " + BOUNDS + " " + STATE,
        "int check(int) " + BOUNDS,
        "int error(int) " + BOUNDS,
        "int borrower(int) " + BOUNDS + " " + STATE,
        "int holds(int, int, int) " + BOUNDS,
        "int at(int, int, int) " + BOUNDS,
        "int lives(int, int) " + BOUNDS,
        "int stuck() " + STATE,
        "void begin()",
        "boolean go(int, boolean) " + BOUNDS + " " + STATE,
        "int run(int, int) " + ARGUMENT + " " + STATE,
        "int state(int) " + BOUNDS + " " + STATE,
        "int fault(int) " + BOUNDS + " " + STATE,
        "int place(int) " + BOUNDS + " " + STATE,
        "int value(int, int) " + BOUNDS + " " + STATE,
        "int waiting(int, int) " + BOUNDS + " " + STATE,
        "int made()",
        "int drops()",
        "int dropped(int) " + BOUNDS,
    };
    private static final String[] CONSTANTS = {
        "NONE -1", "MANY 0", "AFFINE 1", "LINEAR 2", "GIVES 0", "GETS 1", "PICKS 2", "OFFERS 3", "ENDS 4",
        "MAKE 0", "MOVE 1", "FREE 2", "READ 3", "WRITE 4", "SHARE 5", "LEND 6", "SEND 7", "TAKE 8", "PICK 9", "WAIT 10",
        "MAYBE 11", "JUMP 12", "STOP 13", "UNLIKE 1", "EMPTY 2", "KIND 3", "FULL 4", "BORROWED 5", "SESSION 6", "KEPT 7",
        "OPEN 8", "CANCELLED 9", "RUNNING 0", "DONE 1", "DEAD 2",
    };

    private static void same(String what, String[] want, List<String> got) {
        TreeSet<String> all = new TreeSet<>(Arrays.asList(want));
        for (String g : got) {
            EXPECT.due(what + " " + g + " is in the face", true, all.remove(g));
        }
        for (String w : all) {
            EXPECT.due(what + " " + w + " is there", true, false);
        }
    }

    private static String told(Method m) {
        String types = Arrays.stream(m.getParameterTypes()).map(Class::getSimpleName).collect(Collectors.joining(", "));
        String thrown = Arrays.stream(m.getExceptionTypes()).map(t -> " " + t.getSimpleName()).collect(Collectors.joining());
        return m.getReturnType().getSimpleName() + " " + m.getName() + "(" + types + ")" + thrown;
    }

    private static void face() throws IllegalAccessException {
        List<String> methods = new ArrayList<>();
        TreeSet<String> names = new TreeSet<>();
        for (Method m : Lineartide.class.getDeclaredMethods()) {
            if (!Modifier.isPrivate(m.getModifiers())) {
                methods.add(told(m));
                names.add(m.getName());
                EXPECT.due(m + " is public and of an object", true, Modifier.isPublic(m.getModifiers()) && !Modifier.isStatic(m.getModifiers()));
            }
        }
        same("method", METHODS, methods);
        List<String> constants = new ArrayList<>();
        for (Field f : Lineartide.class.getDeclaredFields()) {
            if (!Modifier.isPrivate(f.getModifiers())) {
                boolean plain = Modifier.isPublic(f.getModifiers()) && Modifier.isStatic(f.getModifiers()) && Modifier.isFinal(f.getModifiers());
                EXPECT.due(f + " is a constant", true, plain && f.getType() == int.class);
                constants.add(f.getName() + " " + f.getInt(null));
            }
            EXPECT.due(f + ": what is static is final", true, !Modifier.isStatic(f.getModifiers()) || Modifier.isFinal(f.getModifiers()));
        }
        same("constant", CONSTANTS, constants);
        Constructor<?>[] constructors = Lineartide.class.getDeclaredConstructors();
        EXPECT.due("constructors", 1, constructors.length);
        EXPECT.due("public constructor without arguments", true, Modifier.isPublic(constructors[0].getModifiers()) && constructors[0].getParameterCount() == 0);
        EXPECT.due("public and final", true, Modifier.isPublic(Lineartide.class.getModifiers()) && Modifier.isFinal(Lineartide.class.getModifiers()));
        inside(names);
    }

    private static void inside(TreeSet<String> faceNames) {
        Class<?>[] classes = Lineartide.class.getDeclaredClasses();
        EXPECT.due("at most some twelve classes", true, classes.length < 12);
        for (Class<?> c : classes) {
            EXPECT.due(c + " is static, and neither public nor protected", true,
                Modifier.isStatic(c.getModifiers()) && (c.getModifiers() & (Modifier.PUBLIC | Modifier.PROTECTED)) == 0);
            int fields = 0;
            for (Field f : c.getDeclaredFields()) {
                fields += Modifier.isStatic(f.getModifiers()) ? 0 : 1;
                EXPECT.due(f + ": what is static is final", true, !Modifier.isStatic(f.getModifiers()) || Modifier.isFinal(f.getModifiers()));
            }
            EXPECT.due(c + " has some twenty fields at most", true, fields <= 20);
            for (Method m : c.getDeclaredMethods()) {
                EXPECT.due(m + " bears no name of the face", false, faceNames.contains(m.getName()));
                EXPECT.due(m + " takes at most seven parameters", true, m.getParameterCount() <= 7);
            }
        }
    }

    /** The face as the document prints it, told as it is told here. */
    private static void document() throws java.io.IOException {
        List<String> methods = new ArrayList<>();
        List<String> constants = new ArrayList<>();
        for (String line : Files.readAllLines(Path.of("../shared/DOC.md"))) {
            String told = line.trim().replaceAll(";$", "");
            if (told.startsWith("public static final int ")) {
                for (String constant : told.substring("public static final int ".length()).split(", ")) {
                    constants.add(constant.replace(" = ", " "));
                }
            } else if (told.matches("public \\w+ \\w+\\(.*")) {
                String types = told.replaceAll("(int|boolean) \\w+(?=[,)])", "$1");
                methods.add(types.substring("public ".length()).replace(" throws", "").replaceAll("(?<=Exception),", ""));
            }
        }
        same("method of the document", METHODS, methods);
        same("constant of the document", CONSTANTS, constants);
    }

    private static void text() throws java.io.IOException {
        List<String> lines = Files.readAllLines(Path.of("src/main/java/Lineartide.java"));
        for (int i = 0; i < lines.size(); i++) {
            String line = lines.get(i);
            boolean comment = line.trim().startsWith("/") || line.trim().startsWith("*");
            if (line.startsWith("import ")) {
                EXPECT.due(line, true, line.equals("import java.util.Arrays;"));
            }
            for (String not : new String[] {"->", "::", "catch", "finally", "instanceof", "synchronized", "assert ", "Exact", "while", "package "}) {
                EXPECT.due(line + " has no " + not, false, !comment && line.contains(not));
            }
            if (line.matches(" {4}( {4})?[a-zA-Z].*\\) (throws .*)?\\{")) {
                String end = line.startsWith("        ") ? "        }" : "    }";
                EXPECT.due(line + " is short", true, lines.subList(i, lines.size()).indexOf(end) <= 60);
            }
        }
    }

    public static void main(String[] args) throws Exception {
        face();
        document();
        text();
        EXPECT.end();
    }
}
