import java.util.ArrayList;
import java.util.Arrays;
import java.util.List;
import java.util.Map;
import java.util.TreeMap;

/** Each call with each number at its bounds, beyond them and far beyond them, alone and with the others. */
final class EdgesOfRefusals {
    private static final int MIN = Integer.MIN_VALUE, MAX = Integer.MAX_VALUE;
    private static final int CALLS_OF_ONE = 200;
    /** What each number of a call is: a HOUSE, a PART, an IMAGE, a SET of one of these, any number, or one up to the most. */
    private static final Map<String, String> CALLS = new TreeMap<>(Map.ofEntries(
        Map.entry("told", "6"), Map.entry("house", "HOUSE 6"), Map.entry("far", "HOUSE HOUSE"), Map.entry("part", "PART 5"),
        Map.entry("away", "HOUSES"), Map.entry("awake", "HOUSE HOUSE"), Map.entry("comes", "HOUSE HOUSE PART"),
        Map.entry("stands", "HOUSE HOUSE"), Map.entry("put", "HOUSE HOUSE ANY"), Map.entry("waited", "HOUSE HOUSE"),
        Map.entry("odds", "HOUSE HOUSE 3 1"), Map.entry("night", "3"), Map.entry("crier", "HOUSE HOUSE ANY"),
        Map.entry("keepAt", "PART HOUSE"), Map.entry("kept", "HOUSE 999 4"), Map.entry("reach", "PARTS"), Map.entry("needed", "9999"),
        Map.entry("fit", "PART PARTS"), Map.entry("ladders", "PARTS 4"), Map.entry("longest", "PARTS"), Map.entry("cost", "PART 99"),
        Map.entry("store", "HOUSE"), Map.entry("spares", "HOUSE HOUSE 999 1"), Map.entry("two", "HOUSE HOUSE HOUSE 9999"),
        Map.entry("log", "PART 999"), Map.entry("late", "HOUSE HOUSE PART"), Map.entry("judge", "HOUSE HOUSE 1"),
        Map.entry("seed", "2147483647"), Map.entry("keep", "IMAGE"), Map.entry("goBack", "IMAGE")));

    private EdgesOfRefusals() { }

    static void run() {
        Due.says(Due.TERMS, "REFUSALS, of several the first in this order: UNKNOWN (a HOUSE, PART, SLOT, IMAGE that there is not; bits of such), "
            + "OUTSIDE (another number out of its bounds), NOT (not now, as told), FULL.");
        for (String call : CALLS.keySet()) {
            List<int[]> rows = new ArrayList<>();
            combine(CALLS.get(call).split(" "), new int[0], rows);
            refuse(call, rows);
            answer(call, rows);
        }
        unknownAheadOfNot();
        outsideAheadOfFull();
        allIsThere();
        Due.says(Due.TERMS, "What is refused changes nothing.");
        refusedChangesNothing();
        nothingIsThere();
    }

    /** Three HOUSES and four PARTS of which nothing is as it was at first, with both IMAGES kept. */
    private static Asked changed() {
        return Asked.usual().ask("keepAt 0 1 = 0", "fit 1 13 = 2", "away 4 = 0", "seed 11 = 0", "keep 0 = 1", "keepAt 3 0 = 2", "fit 2 1 = 4",
            "away 2 = 4", "seed 12 = 11", "keep 1 = 1", "cost 2 7 = 10", "store 1 = 0", "log 1 50 = 1", "keepAt 2 1 = 2", "fit 3 2 = 8", "away 1 = 2",
            "seed 13 = 12").tell("house");
    }

    private static boolean isRefused(int answer) {
        return answer <= NineHouses.UNKNOWN;
    }

    /** The numbers that are sound, then those that are not. */
    private static int[] numbers(String kind) {
        switch (kind) {
            case "HOUSE": return new int[] {0, 2, -1, 3, MIN, MAX};
            case "PART": return new int[] {0, 3, -1, 4, MIN, MAX};
            case "IMAGE": return new int[] {0, 1, -1, 2, MIN, MAX};
            case "HOUSES": return new int[] {0, 7, 8, -1, MIN, MAX};
            case "PARTS": return new int[] {0, 15, 16, -1, MIN, MAX};
            case "ANY": return new int[] {0, -1, -2, 99, MIN, MAX};
            default:
                int most = Integer.parseInt(kind);
                return new int[] {0, most, -1, most == MAX ? MIN : most + 1, MIN, most == MAX ? -2 : MAX};
        }
    }

    private static int refusalOf(String[] kinds, int[] row) {
        boolean outside = false;
        for (int i = 0; i < kinds.length; i++) {
            int[] all = numbers(kinds[i]);
            boolean sound = kinds[i].equals("ANY") || row[i] == all[0] || row[i] == all[1];
            boolean isNumber = Character.isDigit(kinds[i].charAt(0));
            if (!sound && !isNumber) return NineHouses.UNKNOWN;
            outside |= !sound;
        }
        return outside ? NineHouses.OUTSIDE : 0;
    }

    private static void combine(String[] kinds, int[] begun, List<int[]> rows) {
        if (begun.length == kinds.length) {
            rows.add(begun);
            return;
        }
        for (int number : numbers(kinds[begun.length])) {
            int[] longer = Arrays.copyOf(begun, begun.length + 1);
            longer[begun.length] = number;
            combine(kinds, longer, rows);
        }
    }

    /** All that are to be refused are, and leave the object as one that was never asked. */
    private static void refuse(String call, List<int[]> rows) {
        List<Integer> untouched = seen(changed());
        Asked x = changed();
        int asked = 0;
        for (int[] row : rows) {
            int refusal = refusalOf(CALLS.get(call).split(" "), row);
            if (refusal == 0) continue;
            Due.due(call + Arrays.toString(row), x.call(call, row), refusal);
            asked++;
            if (asked % CALLS_OF_ONE == 0) {
                alike(call, seen(x), untouched);
                x = changed();
            }
        }
        alike(call, seen(x), untouched);
    }

    /** All others are answered. */
    private static void answer(String call, List<int[]> rows) {
        for (int[] row : rows) {
            if (refusalOf(CALLS.get(call).split(" "), row) != 0) continue;
            int got = changed().call(call, row);
            Due.due(call + Arrays.toString(row) + " is not refused", isRefused(got) ? got : 0, 0);
        }
    }

    private static void unknownAheadOfNot() {
        StringBuilder nine = new StringBuilder(Asked.HOUSE.repeat(9));
        for (int h = 0; h < 9; h++) nine.append("part ").append(h).append(" 0 0;");
        Asked.of(nine.toString(), "").ask("crier 0 0 NONE = NOT", "crier 9 0 NONE = UNKNOWN", "crier 0 9 NONE = UNKNOWN", "crier -1 -1 0 = UNKNOWN");
        new Asked().ask("goBack 0 = NOT", "goBack 1 = NOT", "goBack 2 = UNKNOWN", "goBack -1 = UNKNOWN");
    }

    private static void outsideAheadOfFull() {
        Asked x = new Asked().tell(" ".repeat(600));
        Due.due("feed(0, 0)", x.feed(0, 0), NineHouses.OUTSIDE);
        Due.due("feed(9, 0)", x.feed(9, 0), NineHouses.OUTSIDE);
        Due.due("feed(1, 0)", x.feed(1, 0), NineHouses.FULL);
    }

    /** All that can be seen of an object of three HOUSES and four PARTS, its IMAGES last: going back changes what is so. */
    private static List<Integer> seen(Asked x) {
        List<Integer> all = new ArrayList<>();
        for (int what = 0; what <= 6; what++) all.add(x.call("told", what));
        all.add(x.call("fault"));
        for (int h = 0; h < 3; h++) {
            for (int what = 0; what <= 6; what++) all.add(x.call("house", h, what));
            for (int b = 0; b < 3; b++) all.add(x.call("far", h, b));
            for (int b = 0; b < 3; b++) all.add(x.call("awake", h, b));
            all.add(x.call("judge", 0, h, 1));
        }
        for (int p = 0; p < 4; p++) {
            for (int what = 0; what <= 5; what++) all.add(x.call("part", p, what));
            all.add(x.call("late", 0, 0, p));
        }
        for (int image = 0; image <= 2; image++) {
            all.add(x.call("seed", 1));
            all.add(x.call("told", 4));
            for (int p = 0; p < 4; p++) {
                all.add(x.call("part", p, 0));
                all.add(x.call("part", p, 5));
            }
            if (image < 2) all.add(x.call("goBack", image));
        }
        return all;
    }

    private static void alike(String call, List<Integer> got, List<Integer> untouched) {
        Due.due("what is so behind refused calls of " + call + ": " + got + " for " + untouched, got.equals(untouched) ? 0 : 1, 0);
    }

    /** What is refused as things are: NOT and FULL. */
    private static void refusedChangesNothing() {
        List<Integer> untouched = seen(changed().tell(" ".repeat(201)));
        Asked late = changed().tell(" ".repeat(201)).ask("plan = NOT");
        alike("plan", seen(late), untouched);
        untouched = seen(changed().tell(" ".repeat(594)));
        Asked full = changed().tell(" ".repeat(594));
        Due.due("feed(2, 0)", full.feed(2, 0), NineHouses.FULL);
        Due.due("feed(8, 0)", full.feed(8, 0), NineHouses.FULL);
        Due.due("feed(9, 0)", full.feed(9, 0), NineHouses.OUTSIDE);
        alike("feed", seen(full), untouched);
        Asked unkept = Asked.usual().ask("away 5 = 0", "fit 0 6 = 1", "keepAt 0 2 = 0", "seed 8 = 0", "goBack 0 = NOT", "goBack 1 = NOT");
        alike("goBack", seen(unkept), seen(Asked.usual().ask("away 5 = 0", "fit 0 6 = 1", "keepAt 0 2 = 0", "seed 8 = 0")));
        // a FAULT is no refusal, but THE PARISH and THE PLAN stay, and all with them
        alike("parish with a FAULT", seen(changed().ask("parish = -11", "fault = 5").tell("x").ask("parish = -11", "fault = 0").tell("house")),
            seen(changed().ask("plan = -11", "fault = 0").tell("house")));
    }

    /** Nine HOUSES and twelve PARTS, each call at the greatest of each: that is no refusal, and one more is. */
    private static void allIsThere() {
        StringBuilder nine = new StringBuilder("house 1 1 50 50 50 50;".repeat(9));
        for (int h = 1; h < 9; h++) nine.append("way ").append(h - 1).append(' ').append(h).append(" 9;");
        for (int p = 0; p < 12; p++) nine.append("part ").append(p < 8 ? 0 : p - 3).append(" 1 9;");
        StringBuilder plan = new StringBuilder();
        for (int h = 1; h < 9; h++) plan.append("wake 0 ").append(h).append(';');
        Asked x = Asked.of(nine.toString(), plan.toString());
        // awake: 10 and so on to 73 in 8; at a FIRE at 8 what is kept at 0 comes at 72, the others at 73
        x.ask("house 8 6 = 2048", "house 9 6 = UNKNOWN", "far 8 0 = 72", "far 8 9 = UNKNOWN", "part 11 5 = 2048", "part 12 5 = UNKNOWN",
            "awake 0 8 = 73", "awake 0 9 = UNKNOWN", "comes 8 0 11 = 73", "comes 8 0 12 = UNKNOWN", "stands 8 0 = 84", "stands 9 0 = UNKNOWN",
            "put 8 0 11 = 11", "put 8 0 12 = NONE", "put 8 9 11 = UNKNOWN", "waited 8 0 = 0", "waited 8 9 = UNKNOWN", "odds 8 0 3 1 = 84",
            "odds 8 9 3 1 = UNKNOWN", "crier 8 0 NONE = 84", "crier 8 0 3 = 8", "crier 8 0 4 = NONE", "keepAt 11 8 = 8", "keepAt 12 8 = UNKNOWN",
            "keepAt 11 9 = UNKNOWN", "kept 0 999 0 = 0", "kept 0 83 0 = NONE", "kept 8 999 0 = NONE", "kept 9 999 0 = UNKNOWN", "reach 4095 = 108",
            "reach 4096 = UNKNOWN", "needed 108 = 4095", "needed 109 = NONE", "fit 11 4095 = 2048", "fit 12 4095 = UNKNOWN", "fit 11 4096 = UNKNOWN",
            "ladders 4095 12 = 1", "ladders 4096 12 = UNKNOWN", "ladders 4095 13 = OUTSIDE", "longest 4095 = 12", "longest 2047 = 11",
            "longest 4096 = UNKNOWN", "cost 11 99 = 10", "cost 12 99 = UNKNOWN", "spares 8 0 999 1 = 84", "spares 9 0 999 1 = UNKNOWN",
            "two 8 8 0 54 = 78", "two 8 0 0 54 = 78", "two 8 9 0 54 = UNKNOWN", "log 11 999 = 1", "log 12 999 = UNKNOWN", "late 8 0 11 = 926",
            "late 8 0 12 = UNKNOWN", "judge 8 0 0 = 11", "judge 8 0 1 = 1000", "judge 8 9 1 = UNKNOWN", "store 8 = 0", "store 9 = UNKNOWN",
            "away 511 = 0", "away 512 = UNKNOWN", "clear = 1");
    }

    /** With no HOUSES there is nothing that could be named; no call may throw for that. */
    private static void nothingIsThere() {
        for (String call : CALLS.keySet()) {
            String[] kinds = CALLS.get(call).split(" ");
            List<int[]> rows = new ArrayList<>();
            combine(kinds, new int[0], rows);
            Asked x = new Asked();
            for (int i = 0; i < rows.size(); i++) {
                if (i % CALLS_OF_ONE == 0) x = new Asked();
                int got = x.call(call, rows.get(i));
                boolean named = CALLS.get(call).contains("HOUSE ") || CALLS.get(call).endsWith("HOUSE") || kinds[0].equals("PART");
                if (named) Due.due(call + Arrays.toString(rows.get(i)) + " of nothing", got, NineHouses.UNKNOWN);
            }
        }
    }
}
