import java.lang.reflect.Method;
import java.util.ArrayList;
import java.util.HashMap;
import java.util.List;
import java.util.Map;

/** An object of the class that is asked in rows of words, "comes 0 0 1 = 27", and counts its calls. */
final class Asked {
    static final String HOUSE = "house 0 0 0 0 0 0;";
    /** FAR: 0 to 1 10, 1 to 2 20, 0 to 2 30. */
    static final String USUAL_PARISH = "house 3 5 10 20 30 40;house 7 2 100 0 50 1;house 1 9 0 0 25 99;"
        + "way 0 1 10;way 2 1 20;part 0 4 6;part 1 5 3 on 0;part 2 2 8;part 2 1 1 on 1,2;";
    static final String USUAL_PLAN = "wake 0 1;wake 1 2;";
    /** What later calls answer is free, so no test may lean on it. */
    private static final int MOST_CALLS = 512;
    private static final Map<String, Integer> NAMES = Map.of("NONE", -1, "UNKNOWN", -1000001, "OUTSIDE", -1000002,
        "NOT", -1000003, "FULL", -1000004, "MIN", Integer.MIN_VALUE, "MAX", Integer.MAX_VALUE);
    private static final Map<String, Method> CALLS = new HashMap<>();

    static {
        for (Method m : NineHouses.class.getDeclaredMethods()) CALLS.put(m.getName(), m);
    }

    private final NineHouses x = new NineHouses();
    private final List<String> story = new ArrayList<>();

    /** An object with THE PARISH and THE PLAN told, both sound. */
    static Asked of(String parish, String plan) {
        Asked it = new Asked();
        it.tell(parish);
        if (it.call("parish") < 0) it.due("parish of '" + parish + "': the FAULT's byte", it.call("fault"), -1);
        it.tell(plan);
        if (it.call("plan") < 0) it.due("plan of '" + plan + "': the FAULT's byte", it.call("fault"), -1);
        return it;
    }

    static Asked usual() {
        return of(USUAL_PARISH, USUAL_PLAN);
    }

    int feed(int n, long bytes) {
        count("feed(" + n + ", " + bytes + ")");
        return x.feed(n, bytes);
    }

    Asked tell(String text) {
        for (int at = 0; at < text.length(); at += 8) {
            String piece = text.substring(at, Math.min(text.length(), at + 8));
            long bytes = 0;
            for (char sign : piece.toCharArray()) bytes = bytes << 8 | sign;
            feed(piece.length(), bytes);
        }
        return this;
    }

    int call(String name, int... arguments) {
        Object[] boxed = new Object[arguments.length];
        StringBuilder row = new StringBuilder(name);
        for (int i = 0; i < boxed.length; i++) {
            boxed[i] = arguments[i];
            row.append(' ').append(arguments[i]);
        }
        count(row.toString());
        try {
            return (Integer) CALLS.get(name).invoke(x, boxed);
        } catch (ReflectiveOperationException e) {
            throw new IllegalStateException("no call may throw: " + story, e);
        }
    }

    /** Each row is a call with the answer that is due. */
    Asked ask(String... rows) {
        for (String row : rows) {
            String[] words = row.trim().split(" +");
            int last = words.length - 1;
            if (last < 2 || !words[last - 1].equals("=")) throw new IllegalStateException("no answer is told: " + row);
            int[] arguments = new int[last - 2];
            for (int i = 0; i < arguments.length; i++) arguments[i] = number(words[i + 1]);
            due(row, call(words[0], arguments), number(words[last]));
        }
        return this;
    }

    private void due(String row, int got, int want) {
        Due.due(row, got, want);
        if (got != want) System.out.println("  behind " + story);
    }

    private void count(String row) {
        story.add(row);
        if (story.size() > MOST_CALLS) throw new IllegalStateException("a test asks one object too often: " + story);
    }

    private static int number(String word) {
        Integer named = NAMES.get(word);
        return named != null ? named : Integer.parseInt(word);
    }
}
