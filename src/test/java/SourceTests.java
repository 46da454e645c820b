import java.nio.charset.StandardCharsets;
import java.nio.file.Files;
import java.nio.file.Path;
import java.util.ArrayList;
import java.util.List;
import java.util.Set;
import java.util.regex.Matcher;
import java.util.regex.Pattern;

/** Rules of LANGUAGE.md that can be seen in the lines of FootIsle.java; the rules' numbers stand with each check. */
public final class SourceTests {
    private static final Path SOURCE = Path.of("src/main/java/FootIsle.java");
    private static final Set<String> IMPORTS = Set.of("java.util.Arrays", "java.util.ArrayList", "java.util.List");
    private static final Set<String> LIBRARY = Set.of("Math.min", "Math.max", "Math.abs", "Arrays.fill", "Arrays.copyOf", "Arrays.copyOfRange",
            "System.arraycopy", "Long.bitCount", "Long.compare", "Integer.bitCount", "Integer.compare");
    private static final String[] RULED_OUT = {"package", "finally", "synchronized", "assert", "volatile", "transient", "native", "protected",
        "Object", "var", "try", "catch", "throw", "throws"};

    private SourceTests() {
    }

    public static void main(String[] args) throws Exception {
        String source = Files.readString(SOURCE, StandardCharsets.US_ASCII);
        String code = withoutTexts(source);
        words(code);
        library(code);
        divisors(code);
        sizes(code);
        Check.end("SourceTests");
    }

    /** Comments, texts and letters are blanked, lines stay. */
    private static String withoutTexts(String source) {
        Matcher m = Pattern.compile("/\\*.*?\\*/|//[^\n]*|\"(?:\\\\.|[^\"\\\\])*\"|'(?:\\\\.|[^'\\\\])'", Pattern.DOTALL).matcher(source);
        return m.replaceAll(found -> found.group().startsWith("\"") || found.group().startsWith("'") ? "0" : found.group().replaceAll("[^\n]", " "));
    }

    /** Rules 1, 2, 6, 10, and none of the exceptions that a machine throws is caught: the document asks for no exception at all. */
    private static void words(String code) {
        for (String word : RULED_OUT) {
            Check.due("the word " + word, count(code, "\\b" + word + "\\b"), 0);
        }
        Check.due("lambdas", count(code, "->"), 0);
        Check.due("method references", count(code, "::"), 0);
        Check.due("annotations", count(code, "@"), 0);
        Check.due("arrays of more than one dimension", count(code, "\\]\\s*\\["), 0);
        Check.due("static blocks", count(code, "static\\s*\\{"), 0);
        Check.due("public classes", count(code, "public (?:final |static |abstract )*(?:class|interface|enum|record)\\b"), 1);
        Check.due("floating numbers", count(code, "\\b(?:double|float|Double|Float)\\b"), 0);
    }

    /** Rules 3, 4, 13: no library but what is listed. */
    private static void library(String code) {
        Matcher imports = Pattern.compile("(?m)^import\\s+(?:static\\s+)?([\\w.*]+);").matcher(code);
        while (imports.find()) {
            Check.due("import of " + imports.group(1), IMPORTS.contains(imports.group(1)) ? 1 : 0, 1);
        }
        Matcher used = Pattern.compile("\\b([A-Z]\\w*[a-z]\\w*)\\.(\\w+)").matcher(code);
        while (used.find()) {
            Check.due("use of " + used.group(), LIBRARY.contains(used.group()) ? 1 : 0, 1);
        }
        Check.due("names of Java's packages but in imports", count(code.replaceAll("(?m)^import .*$", ""), "\\b(?:java|javax|jdk|sun)\\."), 0);
    }

    /** Rule 7: what divides is a number written out, a constant, or `tide`, which stands behind a look at it. */
    private static void divisors(String code) {
        Matcher by = Pattern.compile("[/%]=?\\s*(\\w+|\\()").matcher(code);
        while (by.find()) {
            Check.due("division by " + by.group(1), by.group(1).matches("[1-9][0-9]*|[A-Z_]+|tide") ? 1 : 0, 1);
        }
        Check.due("looks at tide", count(code, "return tide > 0 && \\(hour \\+ n\\) / tide > hour / tide;"), 1);
        Check.due("divisions by tide", count(code, "/ tide\\b"), 2);
    }

    /** Rule 11. */
    private static void sizes(String code) {
        int classes = count(code, "\\b(?:class|interface|enum|record) [A-Z]\\w*");
        Check.due("twelve classes at most (" + classes + ")", classes <= 12 ? 1 : 0, 1);
        Matcher heads = Pattern.compile("(?m)^( +)(?:[\\w\\[\\]]+ )*(\\w+)\\(([^()]*)\\) \\{$").matcher(code);
        List<String> seen = new ArrayList<>();
        while (heads.find()) {
            if (heads.group(2).matches("if|for|while|switch|catch")) {
                continue;
            }
            seen.add(heads.group(2));
            Check.due("seven parameters at most of " + heads.group(2), heads.group(3).split(",").length <= 7 ? 1 : 0, 1);
            int end = code.indexOf("\n" + heads.group(1) + "}\n", heads.end());
            int lines = count(code.substring(heads.start(), Math.max(heads.start(), end)), "\n") + 1;
            Check.due("sixty lines at most of " + heads.group(2) + " (" + lines + ")", end > 0 && lines <= 60 ? 1 : 0, 1);
        }
        Check.due("methods seen: all of the face", seen.size() >= 33 && seen.contains("FootIsle") && seen.contains("copy") ? 1 : 0, 1);
    }

    private static int count(String text, String pattern) {
        int found = 0;
        Matcher m = Pattern.compile(pattern).matcher(text);
        while (m.find()) {
            found++;
        }
        return found;
    }
}
