import java.io.IOException;
import java.nio.file.Files;
import java.nio.file.Path;

/** Compares answers with those that are due, and tells at the end how many were. */
final class Due {
    private static final Path DOCUMENT = Path.of("../shared/DOC.md");

    private final String test;
    private final String document;
    private String sentence = "";
    private int right;
    private int wrong;

    Due(String test) {
        this.test = test;
        document = read();
    }

    private static String read() {
        try {
            return Files.exists(DOCUMENT) ? Files.readString(DOCUMENT).replaceAll("\\s+", " ") : "";
        } catch (IOException e) {
            return "";
        }
    }

    /** The sentence of the document that the answers from here on are due by; so that none is made up, it must stand there. */
    void by(String words) {
        sentence = words;
        if (!document.isEmpty()) {
            isTrue("the document says so", document.contains(words));
        }
    }

    void is(String call, long got, long want) {
        if (got == want) {
            right++;
            return;
        }
        wrong++;
        System.out.println(test + ": " + call + " answered " + got + ", due is " + want);
        if (!sentence.isEmpty()) {
            System.out.println("    \"" + sentence + "\"");
        }
    }

    void isTrue(String what, boolean holds) {
        is(what, holds ? 1 : 0, 1);
    }

    void isSame(String what, String got, String want) {
        is(what + ": " + got + " for " + want, got.equals(want) ? 1 : 0, 1);
    }

    /** Ends the program, with 1 if an answer was wrong or nothing was asked. */
    void end() {
        System.out.println(test + ": " + right + " right, " + wrong + " wrong");
        System.exit(wrong == 0 && right > 0 ? 0 : 1);
    }
}
