import java.io.IOException;
import java.nio.charset.StandardCharsets;
import java.nio.file.Files;
import java.nio.file.Path;
import java.util.regex.Matcher;
import java.util.regex.Pattern;

/** The rules of LANGUAGE.md that can be seen in the text of the class; .ci/run starts the tests in the project's folder. */
public final class LanguageTest {
    private static final String[] REFUSED_WORDS = {
        "throw", "throws", "try", "catch", "finally", "synchronized", "assert", "protected", "volatile", "native",
        "equals", "hashCode", "toString", "->", "::", "\"", "Exact\\(", "new Object", "Math\\.sqrt", "double", "float",
    };
    private static final int MOST_LINES_OF_A_METHOD = 60;

    public static void main(String[] args) throws IOException {
        byte[] bytes = Files.readAllBytes(Path.of("src/main/java/InertialReference.java"));
        String text = new String(bytes, StandardCharsets.UTF_8);
        boolean plain = true;
        for (byte sign : bytes) {
            plain = plain && sign > 0;
        }
        Check.holds("signs from 1 to 127", plain);
        String code = text.replaceAll("(?s)/\\*.*?\\*/", "").replaceAll("//[^\n]*", "");
        for (String word : REFUSED_WORDS) {
            String pattern = Character.isLetter(word.charAt(0)) ? "\\b" + word : word;
            pattern = Character.isLetter(word.charAt(word.length() - 1)) ? pattern + "\\b" : pattern;
            Check.holds("no '" + word + "' in the class", !Pattern.compile(pattern).matcher(code).find());
        }
        Matcher imports = Pattern.compile("(?m)^import (.*);").matcher(code);
        while (imports.find()) {
            Check.holds("import of " + imports.group(1), imports.group(1).equals("java.util.Arrays"));
        }
        Check.holds("no package", !Pattern.compile("(?m)^package ").matcher(code).find());
        methodsAreShort(text);
        Check.end();
    }

    /** A method's end is the brace that stands as far in as its first line. */
    private static void methodsAreShort(String text) {
        String[] lines = text.split("\n");
        for (int first = 0; first < lines.length; first++) {
            if (!lines[first].matches("( {4}| {8})[^ /*].*\\) \\{")) {
                continue;
            }
            String end = lines[first].replaceAll("\\S.*", "") + "}";
            int last = first;
            while (last < lines.length && !lines[last].equals(end)) {
                last++;
            }
            Check.holds("a short method: " + lines[first].trim(), last - first < MOST_LINES_OF_A_METHOD);
        }
    }
}
