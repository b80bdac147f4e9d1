import java.io.IOException;
import java.nio.file.Files;
import java.nio.file.Path;
import java.util.ArrayList;
import java.util.List;
import java.util.regex.Matcher;
import java.util.regex.Pattern;

/** Rules of LANGUAGE.md that can be seen in the text of the class. Run from the project's folder. */
public final class LanguageTest {
    private static final Due D = new Due("LanguageTest");
    private static final String[] FORBIDDEN = {
        "\\b(throw|throws|try|catch|finally|synchronized|assert|import|package)\\b",
        "\\b(volatile|transient|native|protected|var)\\b",
        "->", "::", "Exact\\b", "\\bequals\\b", "\\bhashCode\\b", "\\btoString\\b",
        "\\bSystem\\.(?!arraycopy\\b)", "\\bThread\\b", "\\bObject\\b", "\\bRandom\\b",
        "\\b(Integer|Long)\\.(MAX|MIN)_VALUE\\b", "\\bstatic\\s*\\{", "\\[\\]\\[\\]\\[\\]",
        "\\bwhile\\s*\\(\\s*true\\s*\\)", "\\bfor\\s*\\(\\s*;\\s*;", "@\\w+",
    };

    public static void main(String[] args) throws IOException {
        String text = Files.readString(Path.of("src/main/java/ParkDesk.java"));
        for (char sign : text.toCharArray()) {
            if (sign > 127) {
                D.due("sign", sign, 0);
            }
        }
        String code = text.replaceAll("(?s)/\\*.*?\\*/", "").replaceAll("//[^\n]*", "");
        for (String forbidden : FORBIDDEN) {
            Matcher m = Pattern.compile(forbidden).matcher(code);
            D.holds("no " + forbidden, !m.find());
        }
        classes(code);
        staticFields(code);
        parameters(code);
        lengths(code);
        D.end();
    }

    private static void classes(String code) {
        Matcher m = Pattern.compile("\\b(class|record|enum|interface) \\w+").matcher(code);
        int count = 0;
        while (m.find()) {
            count++;
        }
        D.holds("at most twelve classes, not " + count, count <= 12);
    }

    private static void staticFields(String code) {
        Matcher m = Pattern.compile("(?m)^.*\\bstatic\\b[^(]*[=;].*$").matcher(code);
        while (m.find()) {
            D.holds("final: " + m.group().trim(), m.group().contains("static final"));
        }
    }

    private static void parameters(String code) {
        Matcher m = Pattern.compile("\\w+ \\w+\\(([^()]*)\\)\\s*\\{").matcher(code);
        while (m.find()) {
            D.holds("at most seven parameters: " + m.group(1), m.group(1).split(",").length <= 7);
        }
    }

    /** A method runs from a line that ends in ") {" to the first "}" that stands as far in. */
    private static void lengths(String code) {
        List<String> lines = new ArrayList<>(List.of(code.split("\n")));
        Pattern head = Pattern.compile("^( {4}| {8})(?! )[\\w\\[\\] ]+\\([^()]*\\) \\{$");
        for (int i = 0; i < lines.size(); i++) {
            Matcher m = head.matcher(lines.get(i));
            if (m.matches() && !lines.get(i).trim().matches("(if|for|while|switch)\\b.*")) {
                int end = lines.subList(i, lines.size()).indexOf(m.group(1) + "}");
                D.holds("at most sixty lines: " + lines.get(i).trim(), end > 0 && end < 60);
            }
        }
    }
}
