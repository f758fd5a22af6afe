import java.io.IOException;
import java.nio.charset.StandardCharsets;
import java.nio.file.Files;
import java.nio.file.Paths;
import java.util.List;
import java.util.regex.Matcher;
import java.util.regex.Pattern;

/** What of LANGUAGE.md can be seen in the text of the class; .ci/run starts it in the project's folder. */
public final class LanguageTest {
    private static final Check CHECK = new Check("LanguageTest");
    private static final String[] NEVER = {"->", "::", "\\bfinally\\b", "\\btry\\b", "\\bcatch\\b", "\\bsynchronized\\b",
        "\\bassert\\b", "\\bpackage\\b", "\\bprotected\\b", "static\\s*\\{", "Exact\\(", "\\bnull\\b", "\\bObject\\b",
        "\\bSystem\\.(?!arraycopy)", "\\bArrays\\.(?!fill|copyOf)", "\\bMath\\.(?!abs|min|max)", "\\bInteger\\.(?!bitCount)",
        "\"\"\\s*\\+", "\\+\\s*\"\"", "while \\(true\\)", "for \\(;;\\)"};

    public static void main(String[] args) throws IOException {
        List<String> lines = Files.readAllLines(Paths.get("src/main/java/BellTown.java"), StandardCharsets.US_ASCII);
        String code = String.join("\n", lines).replaceAll("/\\*(?s:.*?)\\*/", "").replaceAll("//.*", "");
        String bare = code.replaceAll("\"[^\"]*\"", "\"\"");
        for (String never : NEVER) {
            CHECK.due("no " + never, Pattern.compile(never).matcher(bare).find(), false);
        }
        imports(code);
        throwing(code);
        methods(code);
        CHECK.finish();
    }

    private static void imports(String code) {
        Matcher imports = Pattern.compile("(?m)^import (.*);$").matcher(code);
        while (imports.find()) {
            String name = imports.group(1);
            CHECK.due("import of " + name,
                name.equals("java.util.Arrays") || name.equals("java.util.NoSuchElementException"), true);
        }
    }

    private static void throwing(String code) {
        int all = code.split("\\bthrow\\b", -1).length;
        int right = code.split("throw new (IndexOutOfBounds|IllegalArgument|UnsupportedOperation|NoSuchElement)"
            + "Exception\\(\"[^\"]*\"\\);", -1).length;
        CHECK.due("throws of the named kinds with a written text", right, all);
    }

    private static void methods(String code) {
        Matcher heads = Pattern.compile("(?m)^( {4}| {8})((public|private|static|final) )+[^=;{]*\\([^;{]*\\{$").matcher(code);
        int found = 0;
        while (heads.find()) {
            String indent = heads.group(1);
            int end = code.indexOf("\n" + indent + "}", heads.end());
            int lines = code.substring(heads.start(), end).split("\n").length + 1;
            found++;
            CHECK.due(heads.group().trim() + " has at most 60 lines", lines <= 60, true);
        }
        CHECK.due("methods were found", found > 100, true);
    }
}
