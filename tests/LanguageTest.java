import java.io.IOException;
import java.nio.charset.StandardCharsets;
import java.nio.file.Files;
import java.nio.file.Path;
import java.util.ArrayList;
import java.util.HashSet;
import java.util.List;
import java.util.Set;
import java.util.regex.Matcher;
import java.util.regex.Pattern;

/** Looks through src/main/java/WhyChosen.java for what LANGUAGE.md rules out. */
public final class LanguageTest {
    private static final Path SOURCE = Path.of("src/main/java/WhyChosen.java");
    private static int wrong = 0;

    private static void say(String rule, String what) {
        wrong++;
        System.out.println("rule " + rule + ": " + what);
    }

    public static void main(String[] args) throws IOException {
        String text = Files.readString(SOURCE, StandardCharsets.UTF_8);
        String code = withoutCommentsAndTexts(text);
        wordsRuledOut(code);
        namesOfMethods(code);
        classes(code);
        lengths(code);
        libraryCalls(code);
        System.out.println(wrong == 0 ? "the source keeps to the language" : wrong + " faults");
        System.exit(wrong == 0 ? 0 : 1);
    }

    private static String withoutCommentsAndTexts(String text) {
        String code = text.replaceAll("(?s)/\\*.*?\\*/", " ").replaceAll("//[^\n]*", " ");
        return code.replaceAll("\"(?:\\\\.|[^\"\\\\])*\"", "TEXT").replaceAll("'(?:\\\\.|[^'\\\\])'", "0");
    }

    private static void wordsRuledOut(String code) {
        String[] words = {"throw", "throws", "try", "catch", "finally", "synchronized", "assert", "import", "package", "volatile", "native",
            "transient", "protected", "equals", "hashCode", "toString", "Object", "var", "Thread", "Random", "Runtime", "yield", "strictfp"};
        for (String word : words) {
            if (Pattern.compile("\\b" + word + "\\b").matcher(code).find()) {
                say("4 or 6", "the word " + word);
            }
        }
        for (String sign : new String[] {"->", "::", "@", "Exact", "TEXT +", "+ TEXT", "...", "while (true)", "for (;;)"}) {
            if (code.contains(sign)) {
                say("2, 4, 6 or 9", "the signs " + sign);
            }
        }
        for (int i = 0; i < code.length(); i++) {
            if (code.charAt(i) > 126) {
                say("4", "a sign beyond 127");
            }
        }
        Matcher statics = Pattern.compile("\\bstatic (?!final |class |abstract |record |enum |interface )[^(;{=]*[;=]").matcher(code);
        while (statics.find()) {
            say("5", "static state: " + statics.group());
        }
        if (Pattern.compile("\\bstatic \\{").matcher(code).find()) {
            say("5", "a static block");
        }
    }

    private static void namesOfMethods(String code) {
        Set<String> shown = new HashSet<>();
        Matcher faces = Pattern.compile("\\bpublic (?:int|long) (\\w+)\\(").matcher(code);
        while (faces.find()) {
            shown.add(faces.group(1));
        }
        if (shown.size() != 37) {
            say("1", shown.size() + " public methods, not 37");
        }
        Matcher others = Pattern.compile("\\n +((?:private |static |final |abstract )*)[\\w\\[\\]<>]+ (\\w+)\\(([^)]*)\\) \\{").matcher(code);
        while (others.find()) {
            if (shown.contains(others.group(2)) && !others.group(1).contains("public")) {
                say("1", "a private method named " + others.group(2));
            }
            if (others.group(3).split(",").length > 7) {
                say("11", others.group(2) + " takes more than seven parameters");
            }
        }
    }

    private static void classes(String code) {
        Matcher matcher = Pattern.compile("([\\w ]*)\\bclass (\\w+)").matcher(code);
        List<String> names = new ArrayList<>();
        while (matcher.find()) {
            names.add(matcher.group(2));
            if (!matcher.group(2).equals("WhyChosen") && !matcher.group(1).contains("static")) {
                say("2", matcher.group(2) + " is not static");
            }
        }
        if (names.size() > 12) {
            say("11", names.size() + " classes");
        }
    }

    /** A method starts with a line that ends in ") {" at the depth of members, and ends with its brace. */
    private static void lengths(String code) {
        String[] lines = code.split("\n");
        for (int i = 0; i < lines.length; i++) {
            Matcher head = Pattern.compile("^( {4}| {8})(?! )(?!if|for|while|switch|\\}|else).*\\) \\{$").matcher(lines[i]);
            if (!head.find()) {
                continue;
            }
            String close = head.group(1) + "}";
            int end = i;
            while (end < lines.length && !lines[end].equals(close)) {
                end++;
            }
            if (end - i > 60) {
                say("11", "a method of " + (end - i) + " lines at line " + (i + 1));
            }
        }
    }

    private static void libraryCalls(String code) {
        Set<String> allowed = Set.of("Math.max", "Math.min", "Integer.bitCount", "System.arraycopy", "Long.MIN_VALUE");
        Matcher matcher = Pattern.compile("\\b(Math|Integer|Long|System|Arrays|String|Short|Byte|Character|Boolean|List|ArrayList)\\.\\w+").matcher(code);
        while (matcher.find()) {
            if (!allowed.contains(matcher.group())) {
                say("4", matcher.group());
            }
        }
    }
}
