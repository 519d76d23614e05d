import java.io.IOException;
import java.lang.reflect.Method;
import java.lang.reflect.Modifier;
import java.nio.charset.StandardCharsets;
import java.nio.file.Files;
import java.nio.file.Path;
import java.util.ArrayList;
import java.util.HashMap;
import java.util.List;
import java.util.Map;
import java.util.TreeSet;
import java.util.regex.Matcher;
import java.util.regex.Pattern;

/**
 * README.md holds: each line of its examples is run and answers what stands behind it, and its tables name every call
 * of the face once, as the document writes it, with what the promise says it is refused by.
 */
public final class ReadmeTest {
    private static final Pattern NEW = Pattern.compile("FadingActs x = new FadingActs\\(\\);");
    private static final Pattern TAPE = Pattern.compile("tape\\(x, \"(.*)\"\\);");
    private static final Pattern CALL = Pattern.compile("(?:int (\\w+) = )?x\\.(\\w+)\\((.*?)\\); +// (-?\\d+)(?!\\d).*");
    private static final Pattern ROW = Pattern.compile("\\| `(\\w+)\\((.*?)\\)` \\| (.+) \\|(.*)\\|");

    private static int examples = 0;

    private ReadmeTest() { }

    public static void main(String[] args) throws Exception {
        String readme = Files.readString(Path.of("README.md"));
        examples(readme);
        Due.be("examples are there", examples > 20 ? 1 : 0, 1);
        helper(readme);
        tables(readme, read("../shared/DOC.md"));
        tests(readme);
        Due.close();
    }

    private static String read(String path) {
        try {
            return Files.readString(Path.of(path));
        } catch (IOException e) {
            return "";
        }
    }

    private static List<String> blocks(String readme) {
        List<String> blocks = new ArrayList<>();
        Matcher m = Pattern.compile("(?s)```java\n(.*?)```").matcher(readme);
        while (m.find()) blocks.add(m.group(1));
        return blocks;
    }

    private static void examples(String readme) throws Exception {
        for (String block : blocks(readme)) {
            if (block.startsWith("static")) continue;
            FadingActs x = null;
            Map<String, Integer> names = new HashMap<>();
            names.put("FadingActs.NONE", -1);
            for (String line : block.split("\n")) {
                Matcher tape = TAPE.matcher(line);
                Matcher call = CALL.matcher(line);
                if (NEW.matcher(line).matches()) x = new FadingActs();
                else if (tape.matches()) Due.tape(x, tape.group(1).getBytes(StandardCharsets.ISO_8859_1));
                else if (call.matches()) example(x, line, call, names);
                else Due.be("README.md has a line that is no example: " + line, 1, 0);
            }
        }
    }

    private static void example(FadingActs x, String line, Matcher call, Map<String, Integer> names) throws Exception {
        String[] told = call.group(3).isEmpty() ? new String[0] : call.group(3).split(", ");
        Class<?>[] types = new Class<?>[told.length];
        Object[] numbers = new Object[told.length];
        for (int i = 0; i < told.length; i++) {
            types[i] = int.class;
            numbers[i] = names.containsKey(told[i]) ? names.get(told[i]) : Integer.valueOf(told[i]);
        }
        Number answer = (Number) FadingActs.class.getMethod(call.group(2), types).invoke(x, numbers);
        examples++;
        Due.be("README.md: " + line, answer.longValue(), Long.parseLong(call.group(4)));
        if (call.group(1) != null) names.put(call.group(1), answer.intValue());
    }

    /** What README.md shows as the tests' way to put a text on the tape is that. */
    private static void helper(String readme) {
        String due = read("src/test/java/Due.java").replaceAll("\n +", "\n");
        int shown = 0;
        for (String block : blocks(readme)) {
            if (!block.startsWith("static")) continue;
            shown++;
            Due.be("Due.java has what README.md shows", due.contains(block.replaceAll("\n +", "\n")) ? 1 : 0, 1);
        }
        Due.be("helpers that README.md shows", shown, 1);
    }

    private static void tables(String readme, String document) {
        Map<String, Integer> parameters = new HashMap<>();
        for (Method m : FadingActs.class.getDeclaredMethods()) {
            if (Modifier.isPublic(m.getModifiers())) parameters.put(m.getName(), m.getParameterCount());
        }
        TreeSet<String> missing = new TreeSet<>(parameters.keySet());
        for (String line : readme.split("\n")) {
            Matcher row = ROW.matcher(line);
            if (!row.matches()) continue;
            String name = row.group(1);
            Due.be("README.md names " + name + " for the first time", missing.remove(name) ? 1 : 0, 1);
            int count = row.group(2).isEmpty() ? 0 : row.group(2).split(", ").length;
            Due.be("parameters of " + name, count, parameters.getOrDefault(name, NO_SUCH_CALL));
            if (!document.isEmpty()) asInTheDocument(name, row.group(2), row.group(4), document);
        }
        Due.be("calls that README.md does not name: " + missing, missing.size(), 0);
    }

    private static final int NO_SUCH_CALL = -1;

    private static void asInTheDocument(String name, String parameters, String refusals, String document) {
        Matcher face = Pattern.compile("public \\w+ " + name + "\\((.*)\\);").matcher(document);
        boolean isThere = face.find();
        Due.be(name + " in the document", isThere ? 1 : 0, 1);
        if (!isThere) return;
        Due.be("parameters of " + name + ": " + parameters, face.group(1).replace("int ", "").equals(parameters) ? 1 : 0, 1);
        Matcher promise = Pattern.compile("(?s)## Promise \\d+: " + name + "\n(.*?)\n## ").matcher(document);
        String words = promise.find() ? promise.group(1) : "";
        Matcher asked = Pattern.compile("## Promise 41: status\n\n`int status\\(\\)`: What the latest call of ([a-z, ]+) was REFUSED by").matcher(document);
        boolean canBeRefused = asked.find() && List.of(asked.group(1).split(", ")).contains(name);
        String due = canBeRefused ? numbers(words).toString() : "[]";
        Due.be("README.md has " + name + " refused by " + refusals.trim() + ", the document by " + due,
                numbers(refusals).toString().equals(due) ? 1 : 0, 1);
    }

    private static TreeSet<Integer> numbers(String words) {
        TreeSet<Integer> numbers = new TreeSet<>();
        Matcher m = Pattern.compile("(?<![\\w.])-\\d+").matcher(words);
        while (m.find()) numbers.add(Integer.valueOf(m.group()));
        return numbers;
    }

    /** README.md names each test program of the project, and none that is not there. */
    private static void tests(String readme) throws IOException {
        TreeSet<String> named = new TreeSet<>();
        Matcher m = Pattern.compile("\\b(\\w+Test)\\b").matcher(readme);
        while (m.find()) named.add(m.group(1));
        TreeSet<String> there = new TreeSet<>();
        try (var files = Files.list(Path.of("src/test/java"))) {
            files.map(f -> f.getFileName().toString()).filter(f -> f.endsWith("Test.java"))
                    .forEach(f -> there.add(f.replace(".java", "")));
        }
        Due.be("tests " + named + " of " + there, named.equals(there) ? 1 : 0, 1);
    }
}
