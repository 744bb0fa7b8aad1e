import java.io.IOException;
import java.nio.file.Files;
import java.nio.file.Path;
import java.util.ArrayList;
import java.util.List;
import java.util.Set;
import java.util.TreeSet;
import java.util.regex.Matcher;
import java.util.regex.Pattern;

/** Runs the calls that README.md shows, row by row, and looks whether it names every call. */
public final class NineHousesReadme {
    private static final Pattern TEXT = Pattern.compile("tell\\(x, \"(.*)\"\\);");
    private static final Pattern CALL = Pattern.compile("x\\.(\\w+)\\((.*)\\); +// (-?\\d+)(?::.*)?");

    private static int wrong = 0;

    private static void check(boolean holds, String what) {
        if (!holds) {
            wrong++;
            System.out.println(what);
        }
    }

    public static void main(String[] args) throws IOException {
        String page = Files.readString(Path.of("README.md"));
        int calls = 0;
        Asked x = new Asked();
        for (String row : rowsOf(page)) {
            Matcher text = TEXT.matcher(row);
            Matcher call = CALL.matcher(row);
            if (text.matches()) {
                x.tell(text.group(1));
            } else if (call.matches()) {
                int got = x.call(call.group(1), numbers(call.group(2)));
                check(got == Integer.parseInt(call.group(3)), "README.md shows '" + row + "', the answer is " + got);
                calls++;
            } else {
                check(row.isBlank() || row.startsWith("//") || row.equals("NineHouses x = new NineHouses();"),
                    "README.md has a row that cannot be run: " + row);
            }
        }
        check(calls > 0, "README.md shows calls");
        Set<String> named = namesInTable(page);
        check(named.equals(face()), "README.md names every call: " + named);
        System.out.println(wrong == 0 ? "the page holds" : wrong + " rows of the page do not hold");
        if (wrong != 0) System.exit(1);
    }

    private static List<String> rowsOf(String page) {
        int from = page.indexOf("```java\n");
        if (from < 0) return List.of();
        int to = page.indexOf("```\n", from + 8);
        return List.of(page.substring(from + 8, Math.max(to, from + 8)).split("\n"));
    }

    private static int[] numbers(String arguments) {
        List<Integer> list = new ArrayList<>();
        for (String word : arguments.split(",")) {
            if (!word.isBlank()) list.add(Integer.parseInt(word.trim()));
        }
        return list.stream().mapToInt(Integer::intValue).toArray();
    }

    private static Set<String> namesInTable(String page) {
        Set<String> names = new TreeSet<>();
        for (String row : page.split("\n")) {
            if (!row.startsWith("| `")) continue;
            Matcher name = Pattern.compile("`(\\w+)`").matcher(row);
            while (name.find()) check(names.add(name.group(1)), "README.md names it twice: " + name.group(1));
        }
        return names;
    }

    private static Set<String> face() {
        Set<String> names = new TreeSet<>();
        for (var m : NineHouses.class.getMethods()) {
            if (m.getDeclaringClass() == NineHouses.class) names.add(m.getName());
        }
        return names;
    }
}
