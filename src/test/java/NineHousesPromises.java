/** Each promise of the document with answers worked out by hand: ordinary inputs, edges, wrong inputs. */
public final class NineHousesPromises {
    private static final int NONE = -1, UNKNOWN = -1000001, OUTSIDE = -1000002, NOT = -1000003, FULL = -1000004;

    /** FAR: 0 to 1 10, 1 to 2 20, 0 to 2 30. */
    private static final String PARISH = "house 3 5 10 20 30 40;house 7 2 100 0 50 1;house 1 9 0 0 25 99;"
        + "way 0 1 10;way 2 1 20;part 0 4 6;part 1 5 3 on 0;part 2 2 8;part 2 1 1 on 1,2;";
    private static final String PLAN = "wake 0 1;wake 1 2;";
    private static final String HOUSE = "house 0 0 0 0 0 0;";

    private static int promise = 0;
    private static int wrong = 0;

    private static void due(String call, int got, int want) {
        if (got != want) {
            wrong++;
            System.out.println("promise " + promise + ": " + call + " answered " + got + ", due is " + want);
        }
    }

    private static void tell(NineHouses x, String text) {
        for (int at = 0; at < text.length(); at += 8) {
            String piece = text.substring(at, Math.min(text.length(), at + 8));
            long bytes = 0;
            for (char sign : piece.toCharArray()) bytes = bytes << 8 | sign;
            x.feed(piece.length(), bytes);
        }
    }

    private static NineHouses made(String parish, String plan) {
        NineHouses x = new NineHouses();
        tell(x, parish);
        if (x.parish() < 0) due("parish of '" + parish + "'", x.fault(), NONE);
        tell(x, plan);
        if (x.plan() < 0) due("plan of '" + plan + "'", x.fault(), NONE);
        return x;
    }

    private static NineHouses usual() {
        return made(PARISH, PLAN);
    }

    private static void parishDue(String text, int answer, int fault) {
        NineHouses x = new NineHouses();
        tell(x, text);
        due("parish of '" + text + "'", x.parish(), answer);
        due("fault of '" + text + "'", x.fault(), fault);
        due("THE TEXT behind '" + text + "'", x.told(3), 0);
    }

    private static void planDue(String text, int answer, int fault) {
        NineHouses x = made(HOUSE + HOUSE + HOUSE, "wake 2 1;");
        tell(x, text);
        due("plan of '" + text + "'", x.plan(), answer);
        due("fault of '" + text + "'", x.fault(), fault);
        due("THE TEXT behind '" + text + "'", x.told(3), 0);
        due("clauses behind '" + text + "'", x.told(2), answer < 0 ? 1 : answer);
    }

    public static void main(String[] args) {
        newObject();
        feed();
        parish();
        parishFaults();
        planAndFaults();
        told();
        houseFarPart();
        awayAndAwake();
        wakersOnTheirRounds();
        comesStandsPutWaited();
        odds();
        night();
        crier();
        keepAtAndKept();
        reachAndNeeded();
        fitLaddersLongest();
        costStoreSpares();
        twoFires();
        logs();
        seedAndImages();
        refusalsInOrder();
        System.out.println(wrong == 0 ? "all promises hold" : wrong + " answers are not as promised");
        if (wrong != 0) System.exit(1);
    }

    private static void newObject() {
        promise = 1;
        NineHouses x = new NineHouses();
        for (int what = 0; what <= 6; what++) due("told(" + what + ")", x.told(what), 0);
        due("fault()", x.fault(), NONE);
        due("house(0, 0)", x.house(0, 0), UNKNOWN);
        due("part(0, 0)", x.part(0, 0), UNKNOWN);
        due("stands(0, 0)", x.stands(0, 0), UNKNOWN);
        due("away(0)", x.away(0), 0);
        due("away(1)", x.away(1), UNKNOWN);
        due("reach(0)", x.reach(0), 0);
        due("reach(1)", x.reach(1), UNKNOWN);
        due("needed(0)", x.needed(0), 0);
        due("needed(1)", x.needed(1), NONE);
        due("ladders(0, 0)", x.ladders(0, 0), 1);
        due("ladders(0, 1)", x.ladders(0, 1), OUTSIDE);
        due("longest(0)", x.longest(0), 0);
        due("night(0)", x.night(0), 0);
        due("store(0)", x.store(0), UNKNOWN);
        due("clear()", x.clear(), 0);
        due("goBack(0)", x.goBack(0), NOT);
        due("keep(0)", x.keep(0), 1);
        due("goBack(0)", x.goBack(0), 1);
        due("plan()", x.plan(), 0);
        due("parish()", x.parish(), 0);
    }

    private static void feed() {
        promise = 2;
        NineHouses x = new NineHouses();
        due("feed(0, 0)", x.feed(0, 0), OUTSIDE);
        due("feed(9, 0)", x.feed(9, 0), OUTSIDE);
        due("feed(-1, 0)", x.feed(-1, 0), OUTSIDE);
        due("told(3)", x.told(3), 0);
        due("feed(1, ..)", x.feed(1, 0x7777777777777768L), 1);
        tell(x, "ouse 1 2 3 4 5 6;");
        due("the lowest byte alone was fed", x.parish(), 1);
        for (int i = 1; i <= 75; i++) due("feed(8, blanks)", x.feed(8, 0x2020202020202020L), 8 * i);
        due("feed(1, 32) at 600", x.feed(1, 32), FULL);
        due("feed(9, 32) at 600", x.feed(9, 32), OUTSIDE);
        due("told(3)", x.told(3), 600);
        due("parish() of blanks", x.parish(), 0);
        for (int i = 1; i <= 74; i++) x.feed(8, 0x2020202020202020L);
        due("feed(7)", x.feed(7, 0x20202020202020L), 599);
        due("feed(2) at 599", x.feed(2, 0x2020), FULL);
        due("feed(1) at 599", x.feed(1, 0x20), 600);
        NineHouses y = new NineHouses();
        due("feed(1, -1)", y.feed(1, -1L), 1);
        due("byte 255 cannot stand", y.parish(), -11);
        due("fault()", y.fault(), 0);
    }

    private static void parish() {
        promise = 3;
        NineHouses x = usual();
        tell(x, HOUSE + HOUSE + HOUSE + "part 2 0 0;part 1 0 0;part 0 0 0;part 0 0 0;");
        x.away(5);
        x.fit(0, 7);
        x.cost(0, 3);
        x.store(2);
        x.log(1, 5);
        x.keep(0);
        x.keep(1);
        x.seed(99);
        due("parish()", x.parish(), 3);
        due("no PLAN", x.told(2), 0);
        due("nobody AWAY", x.told(4), 0);
        due("THE STORE", x.told(5), 0);
        due("no LOG", x.told(6), 0);
        due("FITS", x.part(0, 5), 1);
        due("coins", x.part(0, 4), 10);
        due("kept", x.part(0, 0), 2);
        due("behind", x.part(3, 3), 0);
        due("ways are gone", x.far(0, 1), 500);
        due("IMAGE 0", x.goBack(0), NOT);
        due("IMAGE 1", x.goBack(1), NOT);
        due("THE SEED is not told to change", x.seed(1), 99);
        NineHouses y = usual();
        y.away(5);
        y.fit(0, 7);
        y.cost(0, 3);
        y.store(2);
        y.log(1, 5);
        y.keepAt(0, 2);
        y.keep(0);
        tell(y, HOUSE + "part 0 0 0;way 0 0 1;");
        due("parish() with a FAULT", y.parish(), -14);
        due("HOUSES", y.told(0), 3);
        due("PARTS", y.told(1), 4);
        due("PLAN", y.told(2), 2);
        due("AWAY", y.told(4), 5);
        due("STORE", y.told(5), 2);
        due("LOG", y.told(6), 1);
        due("FITS", y.part(0, 5), 7);
        due("coins", y.part(0, 4), 3);
        due("kept", y.part(0, 0), 2);
        due("FAR", y.far(0, 2), 30);
        due("IMAGE 0", y.goBack(0), 1);
    }

    private static void parishFaults() {
        promise = 3;
        parishDue("", 0, NONE);
        parishDue("   ", 0, NONE);
        parishDue("house0 0 0 0 0 0;part0 0 0;part0 0 0on0;", 1, NONE);
        parishDue("  house  060 060 100 0 0 00  ;  way 0 1 1;", -12, 38);
        parishDue(HOUSE + HOUSE + "way 1 0 99 ; part 1 60 99 ;part 0 0 0 on 0 ;part 0 0 0 on 1 , 0;", 2, NONE);
        // 1: cannot stand there
        parishDue("h", -11, 0);
        parishDue("housex 0 0 0 0 0 0;", -11, 0);
        parishDue("housea 0 0 0 0 0 0;", -11, 0);
        parishDue("housez 0 0 0 0 0 0;", -11, 0);
        parishDue("house`0 0 0 0 0 0;", -11, 5);
        parishDue("house{0 0 0 0 0 0;", -11, 5);
        parishDue("house 0/0 0 0 0 0;", -11, 7);
        parishDue("house 0:0 0 0 0 0;", -11, 7);
        parishDue("house 9 9 9 9 9 9;", 1, NONE);
        parishDue("ho use 0 0 0 0 0 0;", -11, 0);
        parishDue("wake 0 1;", -11, 0);
        parishDue("on 0;", -11, 0);
        parishDue("house", -11, 5);
        parishDue("house 0 0 0 0 0 0", -11, 17);
        parishDue("house 0 0 0 0 0 0  ", -11, 19);
        parishDue("house 0 0 0 0 0 0 0;", -11, 18);
        parishDue("house 0 0 0 0 0 0 1000;", -11, 18);
        parishDue("house 0 0 0 0 0 0,", -11, 17);
        parishDue("house 0 0 0 x0 0 0;", -11, 12);
        parishDue("house 0 0 0 -1 0 0;", -11, 12);
        parishDue("house\t0 0 0 0 0 0;", -11, 5);
        parishDue("House 0 0 0 0 0 0;", -11, 0);
        parishDue("houseX 0 0 0 0 0 0;", -11, 5);
        parishDue(";", -11, 0);
        parishDue(HOUSE + ";", -11, 18);
        parishDue(HOUSE + "0;", -11, 18);
        parishDue(HOUSE + "part 0 0 0 on;", -11, 31);
        parishDue(HOUSE + "part 0 0 0;part 0 0 0 on 0,;", -11, 45);
        parishDue(HOUSE + "part 0 0 0;part 0 0 0 on 0 0;", -11, 45);
        parishDue(HOUSE + "part 0 0 0;part 0 0 0 onn 0;", -11, 40);
        parishDue(HOUSE + "part 0 0 0;part 0 0 0,0;", -11, 39);
        parishDue(HOUSE + "part 0 0 0;part 0 0 0 on 0", -11, 44);
        // 2: NUMBERS
        parishDue("house 0000 0 0 0 0 0;", -12, 6);
        parishDue("house 12345678901234567890 0 0 0 0 0;", -12, 6);
        parishDue("house 61 x", -12, 6);
        parishDue("house 60 61 0 0 0 0;", -12, 9);
        parishDue("house 0 0 0 0 0 101;", -12, 16);
        parishDue(HOUSE + "way 1 0 1;", -12, 22);
        parishDue(HOUSE + "way 0 1 1;", -12, 24);
        parishDue(HOUSE + HOUSE + "way 0 1 100;", -12, 44);
        parishDue(HOUSE + HOUSE + "way 0 1 0;", -12, 44);
        parishDue(HOUSE + "part 1 0 0;", -12, 23);
        parishDue(HOUSE + "part 0 61 0;", -12, 25);
        parishDue(HOUSE + "part 0 60 100;", -12, 28);
        parishDue(HOUSE + "part 0 0 0 on 0;", -12, 32);
        parishDue(HOUSE + "part 0 0 0;part 0 0 0 on 0,1;", -12, 45);
        // 3: too many
        parishDue(HOUSE.repeat(9), 9, NONE);
        parishDue(HOUSE.repeat(9) + "house", -13, 162);
        parishDue(HOUSE.repeat(9) + "  house 99;", -13, 164);
        parishDue(HOUSE.repeat(9) + "houses", -11, 162);
        parishDue(HOUSE + "part 0 0 0;".repeat(12), 1, NONE);
        parishDue(HOUSE + "part 0 0 0;".repeat(12) + "part", -13, 150);
        // 4: again
        parishDue(HOUSE + "way 0 0 1;", -14, 24);
        parishDue(HOUSE + HOUSE + "way 0 1 1;way 0 1 1;", -14, 52);
        parishDue(HOUSE + HOUSE + "way 0 1 1;way 1 0 100", -14, 52);
        parishDue(HOUSE + "part 0 0 0;part 0 0 0 on 0,0;", -14, 45);
        parishDue(HOUSE + "part 0 0 0;part 0 0 0 on 0, 000,", -14, 46);
    }

    private static void planAndFaults() {
        promise = 4;
        planDue("", 0, NONE);
        planDue("wake 0 1;wake 0 2;wake 2 0;", 3, NONE);
        planDue(" wake0 1 ; ", 1, NONE);
        planDue("wake 0 3;", -12, 7);
        planDue("wake 3 0;", -12, 5);
        planDue("wake 1 1;", -14, 7);
        planDue("wake 0 1;wake 2 1;", -14, 16);
        planDue("wake 0 1;wake 2 1000;", -12, 16);
        planDue("wake 0 1", -11, 8);
        planDue("wake 0 1,", -11, 8);
        planDue("house 0 0 0 0 0 0;", -11, 0);
        planDue("wakes 0 1;", -11, 0);
        planDue("wake 0;", -11, 6);
        planDue("wake 0 1;x", -11, 9);
        NineHouses x = usual();
        tell(x, "wake 0 0;");
        due("plan()", x.plan(), -14);
        promise = 5;
        due("fault()", x.fault(), 7);
        promise = 4;
        tell(x, " ".repeat(192) + "wake 2 0;");
        due("plan() of 201 bytes", x.plan(), NOT);
        due("THE TEXT stays", x.told(3), 201);
        due("the PLAN stays", x.told(2), 2);
        promise = 5;
        due("fault() stays", x.fault(), 7);
        due("parish() of it", x.parish(), -11);
        due("fault()", x.fault(), 192);
        promise = 4;
        tell(x, " ".repeat(191) + "wake 2 0;");
        due("plan() of 200 bytes", x.plan(), 1);
        promise = 5;
        due("fault()", x.fault(), NONE);
        due("nobody was away from plan()", x.told(4), 0);
        promise = 4;
        NineHouses none = new NineHouses();
        tell(none, "wake 0 1;");
        due("plan() without HOUSES", none.plan(), -12);
        promise = 5;
        due("fault()", none.fault(), 5);
    }

    private static void told() {
        promise = 6;
        NineHouses x = usual();
        x.feed(3, 0);
        x.away(6);
        x.store(1);
        x.log(3, 0);
        int[] all = {3, 4, 2, 3, 6, 1, 1};
        for (int what = 0; what <= 6; what++) due("told(" + what + ")", x.told(what), all[what]);
        due("told(7)", x.told(7), OUTSIDE);
        due("told(-1)", x.told(-1), OUTSIDE);
    }

    private static void houseFarPart() {
        NineHouses x = usual();
        promise = 7;
        int[][] houses = {{3, 5, 10, 20, 30, 40, 1}, {7, 2, 100, 0, 50, 1, 2}, {1, 9, 0, 0, 25, 99, 12}};
        for (int h = 0; h < 3; h++) {
            for (int what = 0; what <= 6; what++) due("house(" + h + ", " + what + ")", x.house(h, what), houses[h][what]);
        }
        due("house(3, 0)", x.house(3, 0), UNKNOWN);
        due("house(-1, 0)", x.house(-1, 0), UNKNOWN);
        due("house(0, 7)", x.house(0, 7), OUTSIDE);
        due("house(0, -1)", x.house(0, -1), OUTSIDE);
        promise = 8;
        due("far(0, 2)", x.far(0, 2), 30);
        due("far(2, 0)", x.far(2, 0), 30);
        due("far(1, 1)", x.far(1, 1), 0);
        due("far(0, 3)", x.far(0, 3), UNKNOWN);
        due("far(-1, 0)", x.far(-1, 0), UNKNOWN);
        NineHouses y = made(HOUSE.repeat(8) + "way 0 1 99;way 1 2 99;way 2 3 99;way 3 4 99;way 4 5 99;way 5 6 99;way 0 6 7;way 1 6 1;", "");
        due("far by the shorter way", y.far(0, 1), 8);
        due("far(0, 4)", y.far(0, 4), 205);
        due("no way", y.far(0, 7), 500);
        NineHouses z = made(HOUSE.repeat(7) + "way 0 1 99;way 1 2 99;way 2 3 99;way 3 4 99;way 4 5 99;way 5 6 99;", "");
        due("far(0, 5)", z.far(0, 5), 495);
        due("more than 500", z.far(0, 6), 500);
        promise = 9;
        int[][] parts = {{0, 4, 6, 0, 10, 1}, {1, 5, 3, 1, 10, 2}, {2, 2, 8, 0, 10, 4}, {2, 1, 1, 6, 10, 8}};
        for (int p = 0; p < 4; p++) {
            for (int what = 0; what <= 5; what++) due("part(" + p + ", " + what + ")", x.part(p, what), parts[p][what]);
        }
        due("part(4, 0)", x.part(4, 0), UNKNOWN);
        due("part(-1, 0)", x.part(-1, 0), UNKNOWN);
        due("part(0, 6)", x.part(0, 6), OUTSIDE);
        due("part(0, -1)", x.part(0, -1), OUTSIDE);
    }

    private static void awayAndAwake() {
        promise = 10;
        NineHouses x = usual();
        due("away(5)", x.away(5), 0);
        due("away(8)", x.away(8), UNKNOWN);
        due("away(-1)", x.away(-1), UNKNOWN);
        due("away(7)", x.away(7), 5);
        due("away(0)", x.away(0), 7);
        promise = 11;
        due("awake(0, 0)", x.awake(0, 0), 0);
        due("awake(0, 1)", x.awake(0, 1), 17);
        due("awake(0, 2)", x.awake(0, 2), 38);
        due("awake(1, 0)", x.awake(1, 0), NONE);
        due("awake(1, 2)", x.awake(1, 2), 21);
        due("awake(2, 1)", x.awake(2, 1), NONE);
        due("awake(3, 0)", x.awake(3, 0), UNKNOWN);
        due("awake(0, -1)", x.awake(0, -1), UNKNOWN);
        x.away(3);
        due("FIRST is never away", x.awake(0, 0), 0);
        due("who is away is not awake", x.awake(0, 1), NONE);
        due("who is away wakes nobody", x.awake(0, 2), NONE);
    }

    private static void wakersOnTheirRounds() {
        promise = 12;
        NineHouses back = made(PARISH, "wake 0 1;wake 1 0;wake 1 2;");
        promise = 11;
        due("FIRST is passed, not left out", back.awake(0, 2), 58);
        promise = 12;
        back.away(4);
        due("KEY, then from the last B", back.comes(1, 0, 2), 86);
        NineHouses last = made(PARISH, "wake 0 1;wake 1 2;wake 1 0;");
        last.away(5);
        due("from FIRST as the last B to it", last.comes(0, 0, 2), 76);
        due("from FIRST as the last B", last.comes(1, 0, 3), 86);
        NineHouses round = made(PARISH, "wake 0 2;wake 0 1;");
        round.away(4);
        promise = 11;
        due("KEY keeps the waker", round.awake(0, 1), 30 + 9 + 20 + 7);
        promise = 12;
        due("taken along to 1", round.comes(1, 0, 2), 59);
        due("taken along to 1, then back", round.comes(2, 0, 2), 79);
        due("those of 1 set out awake", round.comes(2, 0, 1), 86);
        NineHouses ring = made(PARISH, "wake 1 2;wake 2 1;");
        due("a ring that nobody wakes", ring.comes(0, 0, 1), NONE);
        NineHouses apart = made(HOUSE + HOUSE + "part 1 3 0;", "wake 0 1;");
        due("500 where there is no way", apart.comes(1, 0, 0), 500);
        due("500 there and back", apart.comes(0, 0, 0), 1000);
        promise = 13;
        due("STANDS behind that", apart.stands(0, 0), 1003);
    }

    private static void comesStandsPutWaited() {
        NineHouses x = usual();
        promise = 12;
        int[][] comes = {{0, 27, 68, 68}, {10, 17, 58, 58}, {30, 37, 38, 38}};
        for (int f = 0; f < 3; f++) {
            for (int p = 0; p < 4; p++) due("comes(" + f + ", 0, " + p + ")", x.comes(f, 0, p), comes[f][p]);
        }
        due("comes(0, 2, 0)", x.comes(0, 2, 0), NONE);
        due("comes(0, 0, 4)", x.comes(0, 0, 4), UNKNOWN);
        due("comes(3, 0, 0)", x.comes(3, 0, 0), UNKNOWN);
        due("comes(0, -1, 0)", x.comes(0, -1, 0), UNKNOWN);
        promise = 13;
        due("stands(0, 0)", x.stands(0, 0), 71);
        due("stands(1, 0)", x.stands(1, 0), 61);
        due("stands(2, 0)", x.stands(2, 0), 45);
        due("stands(0, 1)", x.stands(0, 1), NONE);
        due("stands(0, 3)", x.stands(0, 3), UNKNOWN);
        due("stands(3, 0)", x.stands(3, 0), UNKNOWN);
        promise = 14;
        for (int i = 0; i < 4; i++) due("put(2, 0, " + i + ")", x.put(2, 0, i), i);
        due("put(2, 0, 4)", x.put(2, 0, 4), NONE);
        due("put(2, 0, -1)", x.put(2, 0, -1), NONE);
        due("put(2, 1, 0)", x.put(2, 1, 0), NONE);
        due("put(2, 3, 0)", x.put(2, 3, 0), UNKNOWN);
        NineHouses like = made(HOUSE + HOUSE + "way 0 1 5;part 1 2 0;part 0 3 0;part 0 0 0 on 1;part 0 9 0;part 0 0 0 on 2;", "wake 0 1;");
        int[] order = {1, 3, 2, 4, 0};
        for (int i = 0; i < 5; i++) due("like READY: put(0, 0, " + i + ")", like.put(0, 0, i), order[i]);
        due("like READY: stands(0, 0)", like.stands(0, 0), 14);
        promise = 15;
        due("waited(0, 0)", x.waited(0, 0), 2);
        due("waited(2, 0)", x.waited(2, 0), 1);
        due("waited(0, 1)", x.waited(0, 1), NONE);
        due("waited(0, 3)", x.waited(0, 3), UNKNOWN);
        due("for the first one alone", like.waited(0, 0), 1);
        NineHouses exact = made(HOUSE + HOUSE + "way 0 1 5;part 0 10 0;part 1 1 0;", "wake 0 1;");
        due("not later than the one ahead was in", exact.waited(0, 0), 0);
        NineHouses none = made(HOUSE, "");
        due("no PARTS", none.waited(0, 0), NONE);
        promise = 13;
        due("no PARTS", none.stands(0, 0), 0);
        promise = 14;
        due("no PARTS", none.put(0, 0, 0), NONE);
    }

    private static void odds() {
        promise = 16;
        NineHouses x = usual();
        due("odds(0, 0, 0, 0)", x.odds(0, 0, 0, 0), 500000);
        due("odds(0, 0, 0, 1)", x.odds(0, 0, 0, 1), 500);
        due("odds(0, 0, 1, 0)", x.odds(0, 0, 1, 0), 71000);
        due("odds(0, 0, 1, 1)", x.odds(0, 0, 1, 1), 71);
        due("odds(0, 0, 2, 0)", x.odds(0, 0, 2, 0), 286500);
        due("odds(0, 0, 2, 1)", x.odds(0, 0, 2, 1), 500);
        due("odds(0, 0, 3, 0)", x.odds(0, 0, 3, 0), 83130);
        x.away(7);
        due("AWAY counts for nothing", x.odds(0, 0, 3, 0), 83130);
        due("AWAY stays", x.told(4), 7);
        due("odds(0, 0, 4, 0)", x.odds(0, 0, 4, 0), OUTSIDE);
        due("odds(0, 0, -1, 0)", x.odds(0, 0, -1, 0), OUTSIDE);
        due("odds(0, 0, 0, 2)", x.odds(0, 0, 0, 2), OUTSIDE);
        due("odds(0, 0, 0, -1)", x.odds(0, 0, 0, -1), OUTSIDE);
        due("odds(3, 0, 9, 0)", x.odds(3, 0, 9, 0), UNKNOWN);
        due("odds(0, 3, 0, 9)", x.odds(0, 3, 0, 9), UNKNOWN);
        // 1 of a hundred, five times: 1000000000 / 100 each, the last one cut away
        NineHouses y = made("house 0 0 0 0 0 0;" + "house 0 0 1 0 0 0;".repeat(5) + "part 5 0 0;",
            "wake 0 1;wake 1 2;wake 2 3;wake 3 4;wake 4 5;");
        long share = 1000000000L, sum = 0;
        for (int h = 1; h <= 4; h++) {
            sum += share / 100 * 500;
            share -= share / 100;
        }
        due("cut HOUSE by HOUSE", y.odds(5, 0, 0, 0), (int) ((sum + share * 2500) / 1000000));
        due("more than 500", y.odds(5, 0, 0, 1), 2500);
    }

    private static void night() {
        promise = 17;
        NineHouses x = usual();
        due("night(2)", x.night(2), 1);
        due("told(4)", x.told(4), 1);
        due("night(2)", x.night(2), 1);
        due("night(3)", x.night(3), 4);
        due("night(4)", x.night(4), OUTSIDE);
        due("night(-1)", x.night(-1), OUTSIDE);
        due("told(4)", x.told(4), 4);
        due("THE SEED", x.seed(2147483647), 794471793);
        due("night(0)", x.night(0), 2);
        due("THE SEED", x.seed(0), 646343466);
    }

    private static void crier() {
        promise = 18;
        NineHouses x = made(PARISH, "");
        due("crier(0, 0, NONE)", x.crier(0, 0, NONE), 64);
        due("crier(0, 0, 0)", x.crier(0, 0, 0), 1);
        due("crier(0, 0, 1)", x.crier(0, 0, 1), 2);
        due("crier(0, 0, 2)", x.crier(0, 0, 2), NONE);
        due("crier(0, 0, -2)", x.crier(0, 0, -2), NONE);
        due("crier(2, 0, NONE)", x.crier(2, 0, NONE), 43);
        x.away(7);
        due("like rounds", x.crier(0, 0, NONE), 79);
        due("the first of like rounds", x.crier(0, 0, 0), 1);
        due("crier(3, 0, 0)", x.crier(3, 0, 0), UNKNOWN);
        due("crier(0, -1, 0)", x.crier(0, -1, 0), UNKNOWN);
        x.away(0);
        x.keepAt(1, 0);
        due("only HOUSES that keep PARTS", x.crier(0, 0, 0), 2);
        due("only HOUSES that keep PARTS", x.crier(0, 0, 1), NONE);
        StringBuilder nine = new StringBuilder(HOUSE.repeat(9));
        for (int h = 0; h < 9; h++) nine.append("way ").append(h == 0 ? "8 0" : h - 1 + " " + h).append(" 1;");
        for (int h = 0; h < 9; h++) nine.append("part ").append(h).append(" 0 0;");
        NineHouses y = made(nine.toString(), "");
        due("eight others", y.crier(0, 0, NONE), NOT);
        due("eight others, no such FIRE", y.crier(9, 0, NONE), UNKNOWN);
        y.keepAt(0, 1);
        due("eight others, none in FIRST", y.crier(0, 0, NONE), NOT);
        y.keepAt(8, 0);
        due("seven others round a ring", y.crier(0, 0, NONE), 9);
        due("they begin with the first", y.crier(0, 0, 0), 1);
        due("and end with the seventh", y.crier(0, 0, 6), 7);
        due("no eighth", y.crier(0, 0, 7), NONE);
        NineHouses none = made(HOUSE, "");
        due("no PARTS", none.crier(0, 0, NONE), 0);
        due("no PARTS", none.crier(0, 0, 0), NONE);
    }

    private static void keepAtAndKept() {
        promise = 19;
        NineHouses x = usual();
        due("keepAt(2, 0)", x.keepAt(2, 0), 2);
        due("part(2, 0)", x.part(2, 0), 0);
        due("house(0, 6)", x.house(0, 6), 5);
        due("house(2, 6)", x.house(2, 6), 8);
        due("stands(0, 0)", x.stands(0, 0), 69);
        due("keepAt(2, 2)", x.keepAt(2, 2), 0);
        due("keepAt(4, 0)", x.keepAt(4, 0), UNKNOWN);
        due("keepAt(0, 3)", x.keepAt(0, 3), UNKNOWN);
        due("keepAt(-1, 0)", x.keepAt(-1, 0), UNKNOWN);
        promise = 20;
        keptDue(x, 0, 999, 0, NONE, NONE, NONE, NONE);
        keptDue(x, 0, 71, 0, NONE, NONE, NONE, NONE);
        keptDue(x, 0, 70, 1, 2, 0, NONE, NONE);
        keptDue(x, 0, 69, 1, 2, 0, NONE, NONE);
        keptDue(x, 0, 68, 2, 2, 0, 3, 0);
        keptDue(x, 0, 43, 2, 2, 0, 3, 0);
        keptDue(x, 0, 42, NONE, NONE, NONE, NONE, NONE);
        keptDue(x, 2, 42, 2, 0, 2, 1, 2);
        keptDue(x, 2, 41, NONE, NONE, NONE, NONE, NONE);
        x.away(6);
        keptDue(x, 0, 70, 1, 2, 0, NONE, NONE);
        due("AWAY stays", x.told(4), 6);
        due("nothing is moved", x.part(2, 0), 2);
        due("kept(3, -1, 0)", x.kept(3, -1, 0), UNKNOWN);
        due("kept(0, -1, 0)", x.kept(0, -1, 0), OUTSIDE);
        due("kept(0, 1000, 0)", x.kept(0, 1000, 0), OUTSIDE);
        due("kept(0, 0, 5)", x.kept(0, 0, 5), OUTSIDE);
        due("kept(0, 0, -1)", x.kept(0, 0, -1), OUTSIDE);
        NineHouses none = made(HOUSE, "");
        due("no PARTS", none.kept(0, 0, 0), 0);
        tell(x, HOUSE + "part 0 1 1;");
        x.parish();
        due("a lesser parish behind it", x.kept(0, 1, 0), 0);
    }

    private static void keptDue(NineHouses x, int first, int t, int... want) {
        for (int what = 0; what <= 4; what++) {
            due("kept(" + first + ", " + t + ", " + what + ")", x.kept(first, t, what), want[what]);
        }
    }

    private static void reachAndNeeded() {
        promise = 21;
        NineHouses x = usual();
        int[] reach = {0, 6, 0, 9, 8, 14, 8, 17, 0, 6, 0, 9, 8, 14, 8, 18};
        for (int set = 0; set < 16; set++) due("reach(" + set + ")", x.reach(set), reach[set]);
        due("reach(16)", x.reach(16), UNKNOWN);
        due("reach(-1)", x.reach(-1), UNKNOWN);
        promise = 22;
        int[][] needed = {{0, 0}, {1, 1}, {6, 1}, {7, 4}, {8, 4}, {9, 3}, {10, 5}, {14, 5}, {15, 7}, {17, 7}, {18, 15}, {19, NONE}, {9999, NONE}};
        for (int[] row : needed) due("needed(" + row[0] + ")", x.needed(row[0]), row[1]);
        due("needed(-1)", x.needed(-1), OUTSIDE);
        due("needed(10000)", x.needed(10000), OUTSIDE);
    }

    private static void fitLaddersLongest() {
        NineHouses x = usual();
        promise = 23;
        due("fit(0, 2)", x.fit(0, 2), 1);
        due("part(0, 5)", x.part(0, 5), 3);
        due("fit(4, 0)", x.fit(4, 0), UNKNOWN);
        due("fit(0, 16)", x.fit(0, 16), UNKNOWN);
        due("fit(-1, 0)", x.fit(-1, 0), UNKNOWN);
        due("fit(0, -1)", x.fit(0, -1), UNKNOWN);
        promise = 24;
        due("ladders(15, 0)", x.ladders(15, 0), 1);
        due("ladders(15, 1)", x.ladders(15, 1), 2);
        due("ladders(15, 2)", x.ladders(15, 2), 1);
        due("ladders(14, 1)", x.ladders(14, 1), 1);
        due("ladders(14, 2)", x.ladders(14, 2), 0);
        due("ladders(15, 4)", x.ladders(15, 4), 1);
        due("ladders(15, 5)", x.ladders(15, 5), OUTSIDE);
        due("ladders(15, -1)", x.ladders(15, -1), OUTSIDE);
        due("ladders(16, 9)", x.ladders(16, 9), UNKNOWN);
        promise = 25;
        due("longest(15)", x.longest(15), 4);
        due("longest(14)", x.longest(14), 1);
        due("longest(7)", x.longest(7), 3);
        due("longest(12)", x.longest(12), 0);
        due("longest(16)", x.longest(16), UNKNOWN);
        due("longest(-1)", x.longest(-1), UNKNOWN);
        promise = 23;
        due("fit(0, 0)", x.fit(0, 0), 3);
        due("part(0, 5)", x.part(0, 5), 1);
        promise = 24;
        NineHouses y = made(HOUSE + "part 0 0 0;".repeat(12), "");
        for (int k = 0; k < 12; k++) y.fit(k, 4095);
        due("twelve PARTS in any order", y.ladders(4095, 12), 479001600);
        due("eleven of twelve", y.ladders(4095, 11), 479001600);
        due("five of six", y.ladders(63, 5), 720);
        due("seven of six", y.ladders(63, 7), 0);
        promise = 25;
        due("six of six", y.longest(0xfc0), 6);
    }

    private static void costStoreSpares() {
        NineHouses x = usual();
        promise = 28;
        sparesDue(x, 0, 9, 0, 71);
        sparesDue(x, 0, 10, 4, 69);
        sparesDue(x, 0, 20, 12, 33);
        sparesDue(x, 0, 30, 14, 12);
        sparesDue(x, 0, 999, 14, 12);
        x.away(2);
        sparesDue(x, 0, 10, 0, 500);
        sparesDue(x, 0, 20, 12, 28);
        x.away(0);
        promise = 26;
        due("cost(2, 0)", x.cost(2, 0), 10);
        due("cost(3, 99)", x.cost(3, 99), 10);
        due("part(3, 4)", x.part(3, 4), 99);
        due("cost(3, 100)", x.cost(3, 100), OUTSIDE);
        due("cost(3, -1)", x.cost(3, -1), OUTSIDE);
        due("cost(4, 100)", x.cost(4, 100), UNKNOWN);
        due("part(3, 4)", x.part(3, 4), 99);
        promise = 28;
        sparesDue(x, 0, 0, 4, 69);
        sparesDue(x, 0, 98, 4, 69);
        sparesDue(x, 0, 99, 12, 33);
        x.cost(0, 0);
        x.cost(1, 0);
        sparesDue(x, 0, 0, 4, 69);
        promise = 27;
        due("store(2)", x.store(2), 0);
        due("told(5)", x.told(5), 2);
        due("store(3)", x.store(3), UNKNOWN);
        due("store(-1)", x.store(-1), UNKNOWN);
        due("store(0)", x.store(0), 2);
        promise = 28;
        x.store(2);
        sparesDue(x, 0, 999, 0, 71);
        due("spares(3, 0, -1, 0)", x.spares(3, 0, -1, 0), UNKNOWN);
        due("spares(0, 3, 0, 9)", x.spares(0, 3, 0, 9), UNKNOWN);
        due("spares(0, 0, -1, 0)", x.spares(0, 0, -1, 0), OUTSIDE);
        due("spares(0, 0, 1000, 0)", x.spares(0, 0, 1000, 0), OUTSIDE);
        due("spares(0, 0, 0, 2)", x.spares(0, 0, 0, 2), OUTSIDE);
        due("spares(0, 0, 0, -1)", x.spares(0, 0, 0, -1), OUTSIDE);
        NineHouses like = made(HOUSE + HOUSE + "way 0 1 5;part 1 0 0;part 1 0 0;", "wake 0 1;");
        like.cost(0, 4);
        like.cost(1, 3);
        sparesDue(like, 0, 6, 0, 10);
        sparesDue(like, 0, 7, 3, 0);
        NineHouses cheap = made(HOUSE + HOUSE + "way 0 1 5;part 1 9 0;part 1 9 0;", "wake 0 1;");
        sparesDue(cheap, 0, 15, 1, 19);
        cheap.cost(1, 9);
        sparesDue(cheap, 0, 15, 2, 19);
        NineHouses over = made(HOUSE + HOUSE + "part 0 0 0;part 1 0 0;", "wake 0 1;");
        sparesDue(over, 1, 0, 0, 500);
        sparesDue(over, 0, 0, 0, 1000);
        over.away(2);
        sparesDue(over, 0, 0, 0, 1000);
    }

    private static void sparesDue(NineHouses x, int fire, int c, int set, int stands) {
        due("spares(" + fire + ", 0, " + c + ", 0)", x.spares(fire, 0, c, 0), set);
        due("spares(" + fire + ", 0, " + c + ", 1)", x.spares(fire, 0, c, 1), stands);
    }

    private static void twoFires() {
        promise = 29;
        NineHouses x = usual();
        due("two(0, 2, 0, 0)", x.two(0, 2, 0, 0), 40);
        due("two(0, 2, 0, 8)", x.two(0, 2, 0, 8), 40);
        due("two(2, 0, 0, 8)", x.two(2, 0, 0, 8), 40);
        due("two(0, 0, 0, 8)", x.two(0, 0, 0, 8), 70);
        due("two(0, 2, 0, 9)", x.two(0, 2, 0, 9), NONE);
        x.away(2);
        due("500 in place of a COMING", x.two(0, 2, 0, 0), 502);
        due("two(3, 0, 0, -1)", x.two(3, 0, 0, -1), UNKNOWN);
        due("two(0, 3, 0, 0)", x.two(0, 3, 0, 0), UNKNOWN);
        due("two(0, 0, 3, 0)", x.two(0, 0, 3, 0), UNKNOWN);
        due("two(0, 0, 0, -1)", x.two(0, 0, 0, -1), OUTSIDE);
        due("two(0, 0, 0, 10000)", x.two(0, 0, 0, 10000), OUTSIDE);
        due("two(0, 0, 0, 9999)", x.two(0, 0, 0, 9999), NONE);
        NineHouses none = made(HOUSE, "");
        due("no PARTS", none.two(0, 0, 0, 0), 0);
        due("no PARTS, 1", none.two(0, 0, 0, 1), NONE);
        // what cannot be in for want of what it goes in behind is not waited for
        NineHouses far = made(HOUSE + HOUSE + "way 0 1 50;part 0 1 1;part 0 1 1;part 1 1 1 on 0;", "wake 0 1;");
        due("the far one stays out", far.two(0, 0, 0, 1), 1);
        due("but not with 2", far.two(0, 0, 0, 2), NONE);
        due("at the far HOUSE", far.two(1, 1, 0, 1), 51);
    }

    private static void logs() {
        NineHouses x = usual();
        promise = 30;
        due("log(2, 70)", x.log(2, 70), 1);
        due("log(0, 2)", x.log(0, 2), 2);
        due("log(0, 2) again", x.log(0, 2), 2);
        due("log(4, 0)", x.log(4, 0), UNKNOWN);
        due("log(-1, 1000)", x.log(-1, 1000), UNKNOWN);
        due("log(1, -1)", x.log(1, -1), OUTSIDE);
        due("log(1, 1000)", x.log(1, 1000), OUTSIDE);
        due("told(6)", x.told(6), 2);
        promise = 32;
        due("late(0, 0, 2)", x.late(0, 0, 2), 2);
        due("late(0, 0, 0)", x.late(0, 0, 0), 2);
        due("late(0, 0, 1)", x.late(0, 0, 1), 0);
        due("late(2, 0, 0)", x.late(2, 0, 0), 0);
        due("late(2, 0, 2)", x.late(2, 0, 2), 32);
        due("never COMES", x.late(0, 2, 0), 0);
        due("late(3, 0, 0)", x.late(3, 0, 0), UNKNOWN);
        due("late(0, 3, 0)", x.late(0, 3, 0), UNKNOWN);
        due("late(0, 0, 4)", x.late(0, 0, 4), UNKNOWN);
        promise = 33;
        due("of like ones the least", x.judge(0, 0, 0), 0);
        due("STOOD", x.judge(0, 0, 1), 73);
        due("LATEST at 2", x.judge(2, 0, 0), 2);
        x.log(0, 0);
        x.log(2, 68);
        due("none is", x.judge(0, 0, 0), NONE);
        due("STOOD as it STANDS", x.judge(0, 0, 1), 71);
        x.away(2);
        x.log(2, 5);
        due("one that never COMES, not told", x.judge(0, 0, 1), NONE);
        x.log(3, 9);
        due("told, if it never COMES", x.judge(0, 0, 1), 28);
        due("judge(0, 0, 2)", x.judge(0, 0, 2), OUTSIDE);
        due("judge(0, 0, -1)", x.judge(0, 0, -1), OUTSIDE);
        due("judge(3, 0, 2)", x.judge(3, 0, 2), UNKNOWN);
        due("judge(0, -1, 2)", x.judge(0, -1, 2), UNKNOWN);
        promise = 31;
        due("clear()", x.clear(), 3);
        due("clear() again", x.clear(), 0);
        due("told(6)", x.told(6), 0);
        x.away(0);
        due("STOOD without a LOG", x.judge(0, 0, 1), 71);
        promise = 30;
        due("log(1, 999)", x.log(1, 999), 1);
        promise = 32;
        due("late(0, 0, 1)", x.late(0, 0, 1), 972);
        promise = 30;
        due("log(1, 0)", x.log(1, 0), 1);
        promise = 33;
        due("STOOD with one early", x.judge(0, 0, 1), 71);
        due("none is LATE", x.judge(0, 0, 0), NONE);
    }

    private static void seedAndImages() {
        NineHouses x = usual();
        promise = 34;
        due("seed(2147483647)", x.seed(2147483647), 0);
        due("seed(-1)", x.seed(-1), OUTSIDE);
        due("seed(-2147483648)", x.seed(-2147483648), OUTSIDE);
        due("seed(7)", x.seed(7), 2147483647);
        promise = 35;
        due("keep(2)", x.keep(2), UNKNOWN);
        due("keep(-1)", x.keep(-1), UNKNOWN);
        promise = 36;
        due("goBack(0)", x.goBack(0), NOT);
        due("goBack(2)", x.goBack(2), UNKNOWN);
        due("goBack(-1)", x.goBack(-1), UNKNOWN);
        promise = 35;
        due("keep(0)", x.keep(0), 1);
        x.keepAt(0, 1);
        x.away(3);
        x.fit(1, 9);
        x.seed(8);
        x.cost(0, 1);
        x.store(1);
        x.log(0, 1);
        promise = 36;
        due("goBack(1)", x.goBack(1), NOT);
        promise = 35;
        due("keep(1)", x.keep(1), 1);
        promise = 36;
        due("goBack(0)", x.goBack(0), 1);
        due("kept", x.part(0, 0), 0);
        due("AWAY", x.told(4), 0);
        due("FITS", x.part(1, 5), 2);
        due("coins are not of an IMAGE", x.part(0, 4), 1);
        due("THE STORE is not of an IMAGE", x.told(5), 1);
        due("the LOG is not of an IMAGE", x.told(6), 1);
        due("THE SEED", x.seed(9), 7);
        x.fit(1, 4);
        x.keepAt(0, 2);
        due("goBack(0) again", x.goBack(0), 1);
        due("an IMAGE stays as it was kept", x.part(1, 5), 2);
        due("an IMAGE stays as it was kept", x.part(0, 0), 0);
        due("goBack(1)", x.goBack(1), 1);
        due("kept", x.part(0, 0), 1);
        due("AWAY", x.told(4), 3);
        due("FITS", x.part(1, 5), 11);
        due("THE SEED", x.seed(9), 8);
        promise = 35;
        due("keep(0) anew", x.keep(0), 1);
        x.away(0);
        promise = 36;
        due("goBack(0)", x.goBack(0), 1);
        due("AWAY", x.told(4), 3);
        tell(x, "wake 2 0;");
        x.plan();
        due("plan() leaves IMAGES", x.goBack(0), 1);
        due("IMAGES leave THE PLAN", x.told(2), 1);
    }

    private static void refusalsInOrder() {
        promise = 0;
        due("NONE", NineHouses.NONE, NONE);
        due("UNKNOWN", NineHouses.UNKNOWN, UNKNOWN);
        due("OUTSIDE", NineHouses.OUTSIDE, OUTSIDE);
        due("NOT", NineHouses.NOT, NOT);
        due("FULL", NineHouses.FULL, FULL);
        NineHouses x = usual();
        due("house(9, 9)", x.house(9, 9), UNKNOWN);
        due("part(99, 99)", x.part(99, 99), UNKNOWN);
        due("odds(0, 9, 9, 9)", x.odds(0, 9, 9, 9), UNKNOWN);
        due("kept(9, 9999, 9)", x.kept(9, 9999, 9), UNKNOWN);
        due("ladders(-1, 99)", x.ladders(-1, 99), UNKNOWN);
        due("cost(9, 999)", x.cost(9, 999), UNKNOWN);
        due("spares(0, 9, 9999, 9)", x.spares(0, 9, 9999, 9), UNKNOWN);
        due("two(0, 0, 9, 99999)", x.two(0, 0, 9, 99999), UNKNOWN);
        due("log(9, 9999)", x.log(9, 9999), UNKNOWN);
        due("judge(0, 9, 9)", x.judge(0, 9, 9), UNKNOWN);
        int least = Integer.MIN_VALUE, most = Integer.MAX_VALUE;
        due("house(least, most)", x.house(least, most), UNKNOWN);
        due("put(0, 0, most)", x.put(0, 0, most), NONE);
        due("put(0, 0, least)", x.put(0, 0, least), NONE);
        due("crier(0, 0, most)", x.crier(0, 0, most), NONE);
        due("crier(0, 0, least)", x.crier(0, 0, least), NONE);
        due("fit(most, most)", x.fit(most, most), UNKNOWN);
        due("away(least)", x.away(least), UNKNOWN);
    }
}
