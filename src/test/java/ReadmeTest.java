import java.lang.reflect.Method;
import java.lang.reflect.Modifier;
import java.nio.file.Files;
import java.nio.file.Path;
import java.util.regex.Matcher;
import java.util.regex.Pattern;

/** What README.md tells of each call must be what the class answers. */
public final class ReadmeTest {
    private static final Due DUE = new Due("ReadmeTest");
    private static final Pattern EXAMPLE = Pattern.compile("(?s)```java\n(.*?)```");
    private static final Pattern CALL = Pattern.compile("board\\.(\\w+)\\((.*)\\); +// (-?\\d+)( .*)?");

    public static void main(String[] args) throws Exception {
        String readme = Files.readString(Path.of("README.md"));
        examples(readme);
        everyCallIsNamed(readme);
        DUE.end();
    }

    private static void examples(String readme) throws ReflectiveOperationException {
        Matcher example = EXAMPLE.matcher(readme);
        int examples = 0;
        while (example.find()) {
            examples++;
            String[] lines = example.group(1).split("\n");
            DUE.isTrue(lines[0] + " makes the board", lines[0].startsWith("IslandBridges board = new IslandBridges();"));
            IslandBridges board = new IslandBridges();
            for (int line = 1; line < lines.length; line++) {
                Matcher call = CALL.matcher(lines[line]);
                if (call.matches()) {
                    DUE.is(lines[line], answer(board, call.group(1), call.group(2)), Integer.parseInt(call.group(3)));
                } else {
                    DUE.isTrue(lines[line] + " is a call with its answer", false);
                }
            }
        }
        DUE.is("examples", examples, 3);
    }

    private static int answer(IslandBridges board, String name, String list) throws ReflectiveOperationException {
        String[] words = list.isEmpty() ? new String[0] : list.split(", ");
        Class<?>[] types = new Class<?>[words.length];
        Object[] values = new Object[words.length];
        for (int place = 0; place < words.length; place++) {
            types[place] = int.class;
            values[place] = words[place].startsWith("'") ? words[place].charAt(1) : Integer.parseInt(words[place]);
        }
        Method method = IslandBridges.class.getMethod(name, types);
        return (int) method.invoke(board, values);
    }

    private static void everyCallIsNamed(String readme) {
        for (Method method : IslandBridges.class.getDeclaredMethods()) {
            if (Modifier.isPublic(method.getModifiers())) {
                DUE.isTrue(method.getName() + " is named", readme.contains("`" + method.getName() + "`"));
            }
        }
    }
}
