import java.io.IOException;
import java.nio.file.Files;
import java.nio.file.Path;
import java.util.List;
import java.util.regex.Matcher;
import java.util.regex.Pattern;

/** What of ../shared/LANGUAGE.md can be seen by reading the source; it is run in the project's folder. */
public final class LanguageTest {
    private static final Path SOURCE = Path.of("src/main/java/FadingActs.java");

    private LanguageTest() { }

    public static void main(String[] args) throws IOException {
        String source = Files.readString(SOURCE);
        for (int i = 0; i < source.length(); i++) {
            char c = source.charAt(i);
            if (c != '\n' && (c < 32 || c > 126)) Due.be("sign at " + i, c, ' ');
        }
        String code = source.replaceAll("(?s)/\\*.*?\\*/", "").replaceAll("//[^\n]*", "");
        String[] words = {"throw", "throws", "try", "catch", "finally", "synchronized", "assert", "double", "float", "var", "protected",
            "package", "System\\.(?!arraycopy)\\w+", "\\w+Exact", "hashCode", "toString", "Object", "Random", "Thread", "->", "::", "@"};
        for (String word : words) {
            String pattern = Character.isLetter(word.charAt(0)) || word.charAt(0) == '\\' ? "\\b" + word + "\\b" : word;
            Matcher m = Pattern.compile(pattern).matcher(code);
            Due.be(word, m.find() ? 1 : 0, 0);
        }
        Matcher imports = Pattern.compile("import ([\\w.]+);").matcher(code);
        while (imports.find()) Due.be(imports.group(), imports.group(1).equals("java.util.Arrays") ? 1 : 0, 1);
        library(code);
        booleans(code);
        lengths(source.lines().toList());
        Due.close();
    }

    private static void library(String code) {
        Matcher m = Pattern.compile("\\b(Arrays|Math|Integer|Long|System|String|Character)\\.(\\w+)").matcher(code);
        List<String> allowed = List.of("Arrays.fill", "Arrays.copyOf", "Math.min", "Math.max", "Integer.bitCount", "System.arraycopy");
        while (m.find()) Due.be(m.group(), allowed.contains(m.group()) ? 1 : 0, 1);
    }

    /** Rule 10 has && and || for booleans; | and & are for numbers. */
    private static void booleans(String code) {
        Matcher m = Pattern.compile("\\bboolean (\\w+)\\b").matcher(code);
        while (m.find()) Due.be(m.group(1) + " |=", Pattern.compile("\\b" + m.group(1) + " [|&^]=").matcher(code).find() ? 1 : 0, 0);
    }

    /** A method of ours begins and ends at an indent of 4 or 8. */
    private static void lengths(List<String> lines) {
        for (int i = 0; i < lines.size(); i++) {
            Matcher m = Pattern.compile("( {4}| {8})(?! )(?!.*\\bclass\\b)(?!.*=).*\\) \\{").matcher(lines.get(i));
            if (!m.matches()) continue;
            int end = i;
            while (!lines.get(end).equals(m.group(1) + "}")) end++;
            Due.be("lines of " + lines.get(i).trim(), end - i < 60 ? 1 : 0, 1);
        }
    }
}
