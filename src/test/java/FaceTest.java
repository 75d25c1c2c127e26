import java.io.IOException;
import java.lang.management.ManagementFactory;
import java.lang.reflect.Constructor;
import java.lang.reflect.Field;
import java.lang.reflect.Method;
import java.lang.reflect.Modifier;
import java.nio.file.Files;
import java.nio.file.Path;
import java.util.Arrays;
import java.util.TreeSet;
import java.util.regex.Matcher;
import java.util.regex.Pattern;

/** The public face, and what can be seen of the rules of the language from outside. */
public final class FaceTest {
    private static final Due DUE = new Due("FaceTest");
    private static final String[] CALLS = {
        "begin 2", "island 2", "removeIsland 1", "at 1", "islandInfo 2", "way 2", "between 2", "count 1", "build 1",
        "take 1", "cap 2", "clear 0", "step 0", "hint 0", "steps 1", "solutions 0", "inAll 1", "make 2", "undo 0",
        "type 1", "clearText 0", "fault 1", "load 0"
    };

    public static void main(String[] args) throws IOException {
        constants();
        members();
        nestedClasses();
        source();
        everyUseOfTheLibrary();
        everyIndexIsTested();
        everyCallForAnyArguments();
        nothingIsMadeByCalls();
        DUE.end();
    }

    private static void constants() {
        DUE.is("INVALID_ARGUMENT", IslandBridges.INVALID_ARGUMENT, -1);
        DUE.is("NOT_POSSIBLE", IslandBridges.NOT_POSSIBLE, -2);
        DUE.is("LIMIT_REACHED", IslandBridges.LIMIT_REACHED, -3);
        DUE.is("NOT_FOUND", IslandBridges.NOT_FOUND, -4);
    }

    private static void members() {
        DUE.isTrue("the class is final", Modifier.isFinal(IslandBridges.class.getModifiers()));
        TreeSet<String> calls = new TreeSet<>();
        TreeSet<String> names = new TreeSet<>();
        for (String call : CALLS) {
            names.add(call.substring(0, call.indexOf(' ')));
        }
        for (Method method : IslandBridges.class.getDeclaredMethods()) {
            boolean isPublic = Modifier.isPublic(method.getModifiers());
            if (isPublic) {
                calls.add(method.getName() + " " + method.getParameterCount());
            } else {
                DUE.isTrue(method + " is private", Modifier.isPrivate(method.getModifiers()));
                DUE.isTrue(method + " has its own name", !names.contains(method.getName()));
            }
            DUE.isTrue(method + " answers int", !isPublic || method.getReturnType() == int.class);
            DUE.isTrue(method + " has at most 7 parameters", method.getParameterCount() <= 7);
        }
        DUE.isTrue("the calls are " + calls, calls.equals(new TreeSet<>(Arrays.asList(CALLS))));
        int constants = 0;
        for (Field field : IslandBridges.class.getDeclaredFields()) {
            boolean isPublic = Modifier.isPublic(field.getModifiers());
            constants += isPublic ? 1 : 0;
            DUE.isTrue(field + " is private or a constant", isPublic || Modifier.isPrivate(field.getModifiers()));
        }
        DUE.is("public constants", constants, 4);
        Constructor<?>[] constructors = IslandBridges.class.getDeclaredConstructors();
        DUE.is("constructors", constructors.length, 1);
        DUE.is("its parameters", constructors[0].getParameterCount(), 0);
    }

    private static void nestedClasses() {
        Class<?>[] nested = IslandBridges.class.getDeclaredClasses();
        DUE.isTrue("at most twelve classes", nested.length < 12);
        for (Class<?> type : nested) {
            DUE.isTrue(type + " is static", Modifier.isStatic(type.getModifiers()));
            DUE.isTrue(type + " is not public", !Modifier.isPublic(type.getModifiers()));
            int fields = 0;
            for (Field field : type.getDeclaredFields()) {
                boolean isStatic = Modifier.isStatic(field.getModifiers());
                fields += isStatic ? 0 : 1;
                DUE.isTrue(field + " is final", !isStatic || Modifier.isFinal(field.getModifiers()));
            }
            DUE.isTrue(type + " has at most twenty fields", fields <= 20);
        }
    }

    /** The program without its comments; there is an empty line between two methods. */
    private static String program() throws IOException {
        return Files.readString(Path.of("src/main/java/IslandBridges.java")).replaceAll("(?s)//[^\n]*|/\\*.*?\\*/", "");
    }

    private static void source() throws IOException {
        String source = program();
        String[] forbidden = {
            "\\bthrow\\b", "\\btry\\b", "\\bcatch\\b", "\\bsynchronized\\b", "\\bassert\\b", "\\bimport\\b", "->", "::",
            "\\bwhile\\b", "\\bSystem\\.(?!arraycopy)", "\\bRandom\\b", "\\bThread\\b", "Exact\\b", "\"", "[^\\x00-\\x7f]"
        };
        for (String sign : forbidden) {
            DUE.isTrue("nothing like " + sign, !source.matches("(?s).*" + sign + ".*"));
        }
    }

    /** Rule 4 lists functions of the library, but none of its constants. */
    private static void everyUseOfTheLibrary() throws IOException {
        TreeSet<String> listed = new TreeSet<>(Arrays.asList("Long.bitCount(", "Math.max(", "Math.min(", "System.arraycopy("));
        Matcher use = Pattern.compile("\\b[A-Z]\\w*[a-z]\\w*\\.\\w+\\(?").matcher(program());
        int uses = 0;
        while (use.find()) {
            uses++;
            DUE.isTrue(use.group() + " is listed", listed.contains(use.group()));
        }
        DUE.isTrue("some uses were found", uses > 0);
    }

    /** Rule 7: the index is a plain name, and ahead of its use, in the same method, it is compared with the length of the row. */
    private static void everyIndexIsTested() throws IOException {
        String source = program();
        Matcher use = Pattern.compile("(?<!new )\\b(\\w+)\\[([^\\]]+)\\]").matcher(source);
        int uses = 0;
        while (use.find()) {
            uses++;
            String ahead = source.substring(source.lastIndexOf("\n\n", use.start()), use.start());
            boolean isTested = ahead.contains(use.group(2) + " < " + use.group(1) + ".length");
            DUE.isTrue(use.group() + " is tested", isTested && use.group(2).matches("\\w+"));
        }
        DUE.isTrue("some uses were found", uses > 0);
    }

    /** On boards of all kinds, with arguments in and far out of range: no call throws, errors are the four. */
    private static void everyCallForAnyArguments() {
        int[] odd = {Integer.MIN_VALUE, -2, -1, 0, 1, 2, 3, 12, 13, 24, 25, 46, 47, 48, 49, 126, 143, 144, 65536, Integer.MAX_VALUE};
        String[] texts = {"", "1.1/.../1.1", "........1111/11........11/11........11/1.1111111111", "8"};
        for (String text : texts) {
            for (int a : odd) {
                for (int b : odd) {
                    IslandBridges x = new IslandBridges();
                    Boards.write(x, text);
                    x.load();
                    int[] answers = {
                        x.at(a), x.islandInfo(a, b), x.way(a, b), x.between(a, b), x.count(a), x.build(a), x.cap(a, b),
                        x.step(), x.hint(), x.steps(b), x.take(a), x.solutions(), x.inAll(a), x.fault(a), x.type(a),
                        x.fault(b), x.clear(), x.make(a, b), x.island(a, b), x.steps(a), x.undo(), x.removeIsland(a),
                        x.begin(a, b), x.load(), x.clearText(), x.undo(), x.undo(), x.undo(), x.undo()
                    };
                    for (int place = 0; place < answers.length; place++) {
                        // islandInfo's lack is the only property that could be below 0, and never is.
                        DUE.isTrue("answer " + place + " for " + a + ", " + b + " is " + answers[place], answers[place] >= -4);
                    }
                }
            }
        }
    }

    /** All calls of a run share one room, so that only the constructor makes anything. */
    private static void nothingIsMadeByCalls() {
        var threads = (com.sun.management.ThreadMXBean) ManagementFactory.getThreadMXBean();
        IslandBridges x = new IslandBridges();
        int answers = callAll(x);
        long before = threads.getCurrentThreadAllocatedBytes();
        for (int round = 0; round < 12; round++) {
            answers += callAll(x);
        }
        long made = threads.getCurrentThreadAllocatedBytes() - before;
        DUE.isTrue("bytes made by some 400 calls: " + made, made < 4096 && answers != 0);
    }

    private static int callAll(IslandBridges x) {
        int answers = x.begin(3, 3) + x.clearText();
        for (int cell = 0; cell < 9; cell++) {
            answers += x.island(cell, 3);
        }
        answers += x.solutions() + x.inAll(0) + x.steps(200) + x.undo() + x.hint() + x.build(0) + x.take(0);
        answers += x.type('.') + x.fault(0) + x.load() + x.make(5, 9) + x.count(6) + x.count(7) + x.at(4);
        return answers + x.islandInfo(0, 5) + x.way(0, 7) + x.removeIsland(0) + x.cap(0, 1) + x.clear();
    }
}
