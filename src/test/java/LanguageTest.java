import java.io.IOException;
import java.nio.charset.StandardCharsets;
import java.nio.file.Files;
import java.nio.file.Path;
import java.util.ArrayList;
import java.util.List;
import java.util.regex.Matcher;
import java.util.regex.Pattern;

/** Rules of LANGUAGE.md that the text of the program tells. */
public final class LanguageTest {
    private static final String SOURCE = "src/main/java/HaggleWash.java";
    private static final String[] FORBIDDEN_WORDS = {
        "throw", "throws", "try", "catch", "finally", "synchronized", "assert", "import", "package", "instanceof",
        "transient", "volatile", "native", "strictfp", "var", "yield", "protected", "System", "Object", "Exception",
        "Thread", "Random", "Class", "Iterator", "equals", "hashCode", "toString", "this"
    };
    private static final String[] FORBIDDEN_SIGNS = {"->", "::", "@", "\\u"};
    private static final int LONGEST_METHOD = 60;

    public static void main(String[] args) throws IOException {
        String whole = Files.readString(Path.of(SOURCE), StandardCharsets.ISO_8859_1);
        String code = whole.replaceAll("(?s)/\\*.*?\\*/", "").replaceAll("//[^\n]*", "");
        for (String word : FORBIDDEN_WORDS) {
            Check.holds("no word " + word, !Pattern.compile("\\b" + word + "\\b").matcher(code).find());
        }
        for (String sign : FORBIDDEN_SIGNS) {
            Check.holds("no sign " + sign, !code.contains(sign));
        }
        for (int i = 0; i < whole.length(); i++) {
            char c = whole.charAt(i);
            Check.holds("sign at " + i, c == '\n' || ' ' <= c && c < 127);
        }
        libraryAndNew(code);
        methodsAreShort(code);
        Check.end();
    }

    /** Math.max and Math.min alone are used of the library, and only own classes and arrays are made. */
    private static void libraryAndNew(String code) {
        Matcher library = Pattern.compile("\\b(?:Math|Integer|Long|Arrays|String|StringBuilder|List|ArrayList)\\b(\\.\\w+)?")
                .matcher(code);
        while (library.find()) {
            Check.holds(library.group(), library.group().equals("Math.max") || library.group().equals("Math.min"));
        }
        Matcher made = Pattern.compile("\\bnew (\\w+)").matcher(code);
        List<String> known = new ArrayList<>(List.of("int", "char"));
        Matcher own = Pattern.compile("\\bclass (\\w+)").matcher(code);
        while (own.find()) {
            known.add(own.group(1));
        }
        while (made.find()) {
            Check.holds("new " + made.group(1), known.contains(made.group(1)));
        }
    }

    private static void methodsAreShort(String code) {
        String[] lines = code.split("\n");
        for (int i = 0; i < lines.length; i++) {
            boolean opens = lines[i].matches(" {4}( {4})?(\\w+ )*\\w+\\(.*") && !lines[i].contains("class");
            if (opens && !lines[i].trim().startsWith("return")) {
                String end = lines[i].replaceAll("\\S.*", "") + "}";
                int last = i;
                while (last < lines.length && !lines[last].equals(end)) {
                    last++;
                }
                Check.holds(lines[i].trim() + " is short", last - i < LONGEST_METHOD);
            }
        }
    }
}
