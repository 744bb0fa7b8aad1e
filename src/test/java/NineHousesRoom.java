import java.lang.management.ManagementFactory;

/** Calls make no objects, a new object is small, and 512 of the dearest calls end soon. */
public final class NineHousesRoom {
    private static final com.sun.management.ThreadMXBean THREADS =
        (com.sun.management.ThreadMXBean) ManagementFactory.getThreadMXBean();
    private static final int CALLS = 512;
    private static final long MOST_BYTES_MADE = 64 * 1024, MOST_BYTES_OF_ONE = 40 * 1024, MOST_SECONDS = 60;

    private static int wrong = 0;
    private static long answers = 0;

    private static void check(boolean holds, String what) {
        if (!holds) {
            wrong++;
            System.out.println(what);
        }
    }

    private static long made() {
        return THREADS.getThreadAllocatedBytes(Thread.currentThread().getId());
    }

    private static void tell(NineHouses x, String text) {
        for (int at = 0; at < text.length(); at++) x.feed(1, text.charAt(at));
    }

    /** Nine HOUSES, twelve PARTS, all awake from HOUSE 0 on; seven others keep PARTS. */
    private static NineHouses great() {
        StringBuilder b = new StringBuilder();
        for (int h = 0; h < 9; h++) b.append("house 9 9 50 50 50 50;");
        for (int h = 1; h < 9; h++) b.append("way ").append(h - 1).append(' ').append(h).append(" 9;");
        for (int p = 0; p < 12; p++) b.append("part ").append(p % 8).append(" 3 9").append(p < 6 ? "" : " on " + (p - 6)).append(';');
        NineHouses x = new NineHouses();
        tell(x, b.toString());
        check(x.parish() == 9 && x.told(1) == 12, "the great parish is read");
        tell(x, "wake 0 1;wake 0 2;wake 1 3;wake 1 4;wake 2 5;wake 2 6;wake 3 7;wake 3 8;");
        check(x.plan() == 8, "the great plan is read");
        for (int k = 0; k < 12; k++) x.fit(k, 4095);
        x.store(4);
        x.keep(0);
        return x;
    }

    private static long dear(NineHouses x, int which, int i) {
        switch (which) {
            case 0: return x.odds(i % 9, 0, i % 4, 0);
            case 1: return x.crier(i % 9, 0, -1);
            case 2: return x.kept(0, 30, 0);
            case 3: return x.needed(i % 99);
            case 4: return x.ladders(4095, 12) + x.longest(4095);
            case 5: return x.spares(i % 9, 0, 999, 0);
            case 6: return x.two(i % 9, 8 - i % 9, 0, 9);
            case 7: return x.judge(i % 9, 0, 1) + x.put(i % 9, 0, 3) + x.waited(i % 9, 0) + x.late(i % 9, 0, 1);
            case 8: return x.keep(1) + x.goBack(0) + x.night(i % 4) + x.away(0);
            case 9: return x.feed(8, 7525362640837685280L) + x.parish();
            default: return x.feed(5, 0x77616b6520L) + x.plan() + x.told(6) + x.clear();
        }
    }

    public static void main(String[] args) {
        for (int which = 0; which <= 10; which++) {
            NineHouses x = great();
            answers += dear(x, which, 0);
            long before = made(), start = System.nanoTime();
            for (int i = 0; i < CALLS; i++) answers += dear(x, which, i);
            long bytes = made() - before, seconds = (System.nanoTime() - start) / 1000000000L;
            check(bytes < MOST_BYTES_MADE, "call " + which + " made " + bytes + " bytes");
            check(seconds < MOST_SECONDS, "call " + which + " took " + seconds + " s");
        }
        long before = made();
        NineHouses x = new NineHouses();
        answers += x.told(0);
        check(made() - before < MOST_BYTES_OF_ONE, "a new object makes " + (made() - before) + " bytes");
        System.out.println(wrong == 0 ? "the room is kept" : wrong + " calls take too much" + (answers == 0 ? "" : "."));
        if (wrong != 0) System.exit(1);
    }
}
