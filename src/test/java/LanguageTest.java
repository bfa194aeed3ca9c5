import java.io.IOException;
import java.nio.file.Files;
import java.nio.file.Path;
import java.util.regex.Matcher;
import java.util.regex.Pattern;

/** The rules of LANGUAGE.md that can be seen from the words of the source alone. */
public final class LanguageTest {
    private static final String[] FORBIDDEN = {
        "\\b(throw|throws|try|catch|synchronized|assert|package|protected|native|volatile)\\b",
        "->", "::", "\\bnew\\s+\\w+\\s*\\([^)]*\\)\\s*\\{", "\\w+Exact\\b", "\\b(double|float)\\b",
        "\\.(equals|hashCode|getClass|nanoTime|currentTimeMillis)\\b", "\\bimport (?!java\\.util\\.Arrays;)",
        "\\bSystem\\.(?!arraycopy\\b)", "\\bstatic\\s*\\{", "\\bstatic (?!final\\b)(?!\\w+ \\w+\\()",
        "\\bboolean\\b.*\\bArrays\\.", "\\bwhile \\(true\\)", "\\bfor \\(;;\\)"};

    public static void main(String[] args) throws IOException {
        Due due = new Due();
        String code = Files.readString(Path.of("src/main/java/PieceMoulds.java"))
                .replaceAll("(?s)/\\*.*?\\*/", "").replaceAll("//[^\n]*", "");
        for (String pattern : FORBIDDEN) {
            Matcher m = Pattern.compile(pattern).matcher(code);
            due.is("no " + pattern + (m.find() ? " as in " + m.group() : ""), m.reset().find() ? 1 : 0, 0);
        }
        Matcher classes = Pattern.compile("\\bclass \\w+").matcher(code);
        int many = 0;
        while (classes.find()) {
            many++;
        }
        due.is("classes are at most twelve", many <= 12 ? 1 : 0, 1);
        methodsAreShort(due, code);
        objectsAreMadeOnce(due, code);
        due.end();
    }

    /** All calls of a run share one room, so no call may make an object: fields and the constructor alone do. */
    private static void objectsAreMadeOnce(Due due, String code) {
        boolean constructing = false;
        int made = 0;
        for (String line : code.split("\n")) {
            constructing = line.startsWith("    public PieceMoulds()") || constructing && !line.equals("    }");
            if (line.matches(".*(\\bnew\\b|\\bcopyOf|\\bclone\\b|\\bStringBuilder\\b|\\bList\\b|\" [+]|[+] \").*")) {
                made++;
                boolean field = line.matches(" {8}private final int\\[\\].* = new .*;")
                        || line.matches(" {8}private final boolean\\[\\] .* = new .*;");
                due.is("made once:" + line, constructing || field ? 1 : 0, 1);
            }
        }
        due.is("rows are made", made > 0 ? 1 : 0, 1);
    }

    private static void methodsAreShort(Due due, String code) {
        String[] lines = code.split("\n");
        int start = 0;
        for (int i = 0; i < lines.length; i++) {
            String line = lines[i].stripTrailing();
            boolean opens = line.matches(" {4,8}[\\w\\[\\] ]+\\(.*\\) \\{");
            if (opens) {
                start = i;
                int parameters = line.substring(line.indexOf('(')).split(",").length;
                due.is("parameters of" + line, parameters <= 7 ? 1 : 0, 1);
            }
            if (line.matches(" {4,8}\\}")) {
                due.is("lines of" + lines[start], i - start <= 60 || lines[start].contains("class") ? 1 : 0, 1);
                start = i;
            }
        }
    }
}
