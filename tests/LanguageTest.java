import java.io.IOException;
import java.nio.file.Files;
import java.nio.file.Path;
import java.util.Set;
import java.util.regex.Matcher;
import java.util.regex.Pattern;

/** Those rules of ../shared/LANGUAGE.md that the words of the source show; run from the project's directory. */
public final class LanguageTest {
    private static final Set<String> LIBRARY = Set.of("Math.abs", "Math.max", "Math.min", "Math.floorMod",
            "Math.floorDiv", "Integer.compare", "Integer.bitCount", "Arrays.fill");
    /** The class does without all of these, some of which the rules would leave it. */
    private static final String[] NOWHERE = {"try", "catch", "finally", "synchronized", "assert", "instanceof",
        "double", "float", "String", "StringBuilder", "System", "Object", "native", "volatile", "transient",
        "protected", "List", "ArrayList", "Iterator", "record", "var", "getClass", "hashCode", "equals", "toString"};
    private static final int LINES_MOST = 60;
    private static final int PARAMETERS_MOST = 7;

    public static void main(String[] args) throws IOException {
        Due.part("the language");
        String source = Files.readString(Path.of("src/main/java/DayBoy.java"));
        Due.holds("signs are 1 to 127", source.chars().allMatch(sign -> sign >= 1 && sign <= 127));
        String words = source.replaceAll("(?s)/\\*.*?\\*/", "").replaceAll("//[^\n]*", "").replaceAll("'.'", "0");
        Due.fails("lambdas", words.contains("->"));
        Due.fails("references to methods", words.contains("::"));
        Due.fails("texts", words.contains("\""));
        for (String word : NOWHERE) {
            Due.is(word, count("\\b" + word + "\\b", words), 0);
        }
        Due.is("imports", count("\\bimport\\b", words), 2);
        Due.is("package", count("\\bpackage\\b", words), 0);
        Due.is("throws of its own", count("\\bthrow\\b", words), count("\\bthrow new NoSuchElementException\\(\\);", words));
        Due.is("numbers that are not whole", count("\\b\\d+(\\.\\d|[fFdD]\\b)", words), 0);
        library(words);
        methods(words);
        Due.end();
    }

    private static int count(String pattern, String words) {
        return (int) Pattern.compile(pattern).matcher(words).results().count();
    }

    private static void library(String words) {
        Matcher call = Pattern.compile("\\b(?:Math|Integer|Long|Arrays)\\.\\w+").matcher(words);
        while (call.find()) {
            Due.holds(call.group() + " is in the library", LIBRARY.contains(call.group()));
        }
    }

    /** Methods begin with a line that has no = and no ; and end with a brace under their first sign. */
    private static void methods(String words) {
        Matcher method = Pattern.compile("(?m)^( +)(?!else|if|for|while|switch|do|return)[\\w\\[\\] ]*\\b(\\w+)"
                + "\\(([^=;()]*)\\)(?: throws \\w+)? \\{\n((?s:.*?))^\\1\\}").matcher(words);
        int found = 0;
        while (method.find()) {
            String name = method.group(2);
            found++;
            Due.holds(name + " is short", method.group(4).lines().count() <= LINES_MOST);
            Due.holds(name + " has seven parameters at most", method.group(3).split(",").length <= PARAMETERS_MOST);
            Due.fails(name + " calls itself", Pattern.compile("(?<![\\w.])" + name + "\\(").matcher(method.group(4)).find());
        }
        Due.holds("methods were found: " + found, found > 150);
    }
}
