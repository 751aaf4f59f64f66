import java.nio.charset.StandardCharsets;
import java.nio.file.Files;
import java.nio.file.Paths;
import java.util.ArrayList;
import java.util.Arrays;
import java.util.List;
import java.util.TreeSet;
import java.util.regex.Matcher;
import java.util.regex.Pattern;

/** The examples of README.md answer what stands behind them, and use each call of the face. */
final class ReadmeTest {

    private static final Pattern CALL = Pattern.compile("page\\.(\\w+)\\(([-0-9, ]*)\\);\\s*(?://\\s*(-?[0-9.]+):?.*)?");
    private static final Pattern OTHER = Pattern.compile("page\\.(\\w+)\\(([-0-9, ]*)\\);\\s*//\\s*[a-z].*");
    private static final Pattern PUT = Pattern.compile("put\\(page, \"([^\"]*)\"\\);");

    private Face page = new Face();
    private final TreeSet<String> called = new TreeSet<>(Arrays.asList("appendText", "truncateText"));

    public static void main(String[] args) throws Exception {
        ReadmeTest test = new ReadmeTest();
        List<String> lines = Files.readAllLines(Paths.get("README.md"), StandardCharsets.UTF_8);
        for (String line : examples(lines)) {
            test.make(line);
        }
        TreeSet<String> face = new TreeSet<>();
        for (String[] some : new String[][] {Rules.ASKS, Rules.EDITS, Rules.OTHERS}) {
            face.addAll(Arrays.asList(some));
        }
        Check.due("calls that stand in README.md", test.called.toString(), face.toString());
        Check.end("ReadmeTest");
    }

    /** The lines between ```java and ``` that do not belong to the method put, which stands in Face too. */
    private static List<String> examples(List<String> lines) {
        List<String> found = new ArrayList<>();
        boolean inside = false;
        for (String line : lines) {
            if (line.startsWith("```")) {
                inside = line.equals("```java");
            } else if (inside && !line.startsWith(" ") && !line.startsWith("static") && !line.equals("}")) {
                found.add(line);
            }
        }
        return found;
    }

    private void make(String line) {
        Matcher put = PUT.matcher(line);
        Matcher call = CALL.matcher(line);
        Matcher other = OTHER.matcher(line);
        if (line.equals("DotRuns page = new DotRuns();")) {
            page = new Face();
        } else if (put.matches()) {
            page.put(put.group(1));
        } else if (call.matches() && call.group(3) != null) {
            Check.due(line, answer(call), call.group(3));
        } else {
            Check.due("<" + line + "> is understood", other.matches() ? 1 : 0, 1);
            Check.due(line, other.matches() ? answer(other) : "", "0");
        }
    }

    private String answer(Matcher call) {
        String name = call.group(1);
        called.add(name);
        String[] texts = call.group(2).isEmpty() ? new String[0] : call.group(2).split(", *");
        int[] numbers = new int[texts.length];
        for (int i = 0; i < texts.length; i++) {
            numbers[i] = Integer.parseInt(texts[i]);
        }
        return page.call(name, numbers);
    }
}
