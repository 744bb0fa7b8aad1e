/** The edges of the Terms that all share, of the texts, and of promises 1 to 9. */
final class EdgesOfTexts {
    private static final String HOUSE = Asked.HOUSE;
    private static final String PART = "part 0 0 0;";

    private EdgesOfTexts() { }

    static void run() {
        numbersAndSets();
        parishClauses();
        planClauses();
        wordsAndNumbers();
        faults();
        far();
        newObject();
        feed();
        parish();
        plan();
        fault();
        told();
        houseFarPart();
    }

    /** The text has a '^' ahead of the byte that is to be blamed; THE PARISH and THE PLAN stay. */
    private static void parishFault(int number, String marked) {
        Asked x = Asked.usual();
        x.tell(marked.replace("^", ""));
        Due.due("parish of " + marked, x.call("parish"), -10 - number);
        Due.due("fault of " + marked, x.call("fault"), marked.indexOf('^'));
        x.ask("told 0 = 3", "told 1 = 4", "told 2 = 2", "told 3 = 0");
    }

    private static Asked parishSound(String text, int houses, int parts) {
        Asked x = Asked.usual();
        x.tell(text);
        Due.due("parish of " + text, x.call("parish"), houses);
        Due.due("PARTS of " + text, x.call("told", 1), parts);
        return x.ask("fault = NONE", "told 2 = 0", "told 3 = 0");
    }

    /** As above, in a parish of nine HOUSES with a PLAN of one clause. */
    private static void planFault(int number, String marked) {
        Asked x = Asked.of(HOUSE.repeat(9), "wake 2 1;");
        x.tell(marked.replace("^", ""));
        Due.due("plan of " + marked, x.call("plan"), -10 - number);
        Due.due("fault of " + marked, x.call("fault"), marked.indexOf('^'));
        x.ask("told 0 = 9", "told 2 = 1", "told 3 = 0", "awake 2 1 = 500", "awake 0 1 = NONE");
    }

    private static Asked planSound(String text, int clauses) {
        Asked x = Asked.of(HOUSE.repeat(9), "wake 2 1;");
        x.tell(text);
        Due.due("plan of " + text, x.call("plan"), clauses);
        return x.ask("fault = NONE", "told 3 = 0");
    }

    private static void numbersAndSets() {
        Due.tellsNoEdge(Due.TERMS, "Words in capitals are told where they come first.");
        Due.says(Due.TERMS, "All numbers are whole; / cuts towards 0.");
        // 33 of a hundred, once and twice: 330 and 108.9 of a thousand
        Asked third = Asked.of(HOUSE + "house 0 1 33 0 0 0;house 0 1 33 0 0 0;way 0 1 1;way 1 2 1;part 2 0 0;", "wake 0 1;wake 0 2;");
        third.ask("odds 2 0 0 0 = 2660");
        Asked both = Asked.of(HOUSE + "house 0 0 33 0 0 0;house 0 0 33 0 0 0;way 0 1 1;way 1 2 1;part 2 0 0;", "wake 0 1;wake 1 2;");
        // never woken, if 1 is away: 330 times 500 and 670 times 2
        both.ask("odds 2 0 0 0 = 166340");
        Due.says(Due.TERMS, "What has a number has it from 0 on, as it comes.");
        parishSound("house 1 0 0 0 0 0;part 0 5 0;house 2 0 0 0 0 0;part 1 6 0;way 1 0 7;", 2, 2).ask(
            "house 0 0 = 1", "house 1 0 = 2", "house 2 0 = UNKNOWN", "part 0 1 = 5", "part 1 1 = 6", "part 2 1 = UNKNOWN");
        Due.says(Due.TERMS, "A SET is a whole number, bit k for k.");
        Asked twelve = parishSound(HOUSE + PART.repeat(10) + "part 0 0 0 on 0,9;part 0 0 0 on 10;", 1, 12);
        twelve.ask("house 0 6 = 4095", "part 10 3 = 513", "part 11 3 = 1024", "part 0 5 = 1", "part 11 5 = 2048");
        Due.says(Due.TERMS, "NONE is -1.");
        Due.due("NONE", NineHouses.NONE, -1);
        Due.says(Due.TERMS, "They are far below all that is counted: -1000001 and on.");
        Due.due("UNKNOWN", NineHouses.UNKNOWN, -1000001);
        Due.due("OUTSIDE", NineHouses.OUTSIDE, -1000002);
        Due.due("NOT", NineHouses.NOT, -1000003);
        Due.due("FULL", NineHouses.FULL, -1000004);
        Due.says(Due.TERMS, "MILLION is 1000000, BILLION 1000000000.");
        Asked.of("house 0 0 50 50 50 50;".repeat(9) + "part 0 7 0;", "").ask("odds 0 0 0 0 = 7000", "odds 8 0 3 0 = 507000");
    }

    private static void parishClauses() {
        Due.says(Due.TERMS, "THE PARISH is told in a text (600 bytes at most): clauses:");
        String full = HOUSE + " ".repeat(600 - 2 * HOUSE.length()) + HOUSE;
        parishSound(full, 2, 0);
        parishFault(1, HOUSE + " ".repeat(599 - HOUSE.length()) + "^;");
        parishFault(1, HOUSE + " ".repeat(599 - HOUSE.length()) + "^w");
        parishFault(1, " ".repeat(595) + "house^");
        parishFault(1, " ".repeat(594) + "house0^");
        parishSound("", 0, 0);
        Due.says(Due.TERMS, "'house' W K O O O O ';' (9 HOUSES at most: WAKE 0 .. 60 minutes, KEY 0 .. 60 minutes, "
            + "ODDS of a hundred that its folk are away by quarters of the day, 0 .. 100 each)");
        parishSound("house 60 60 100 100 100 100;house 0 0 0 0 0 0;", 2, 0).ask(
            "house 0 0 = 60", "house 0 1 = 60", "house 0 2 = 100", "house 0 3 = 100", "house 0 4 = 100", "house 0 5 = 100",
            "house 1 0 = 0", "house 1 1 = 0", "house 1 2 = 0", "house 1 3 = 0", "house 1 4 = 0", "house 1 5 = 0");
        parishFault(2, "house ^61 0 0 0 0 0;");
        parishFault(2, "house 0 ^61 0 0 0 0;");
        parishFault(2, "house 0 0 ^101 0 0 0;");
        parishFault(2, "house 0 0 0 ^101 0 0;");
        parishFault(2, "house 0 0 0 0 ^101 0;");
        parishFault(2, "house 0 0 0 0 0 ^101;");
        parishFault(1, "house^;");
        parishFault(1, "house 0 0 0 0 0^;");
        parishFault(1, "house 0 0 0 0 0 0 ^0;");
        parishSound(HOUSE.repeat(9), 9, 0);
        parishFault(3, HOUSE.repeat(9) + "^" + HOUSE);
        Due.says(Due.TERMS, "'way' A B M ';' (two unlike HOUSES, each two once, either way round; 1 .. 99 minutes)");
        parishSound(HOUSE.repeat(3) + "way 0 1 1;way 2 1 99;", 3, 0).ask("far 0 1 = 1", "far 1 0 = 1", "far 1 2 = 99", "far 2 0 = 100");
        parishFault(2, HOUSE.repeat(2) + "way 0 1 ^0;");
        parishFault(2, HOUSE.repeat(2) + "way 0 1 ^100;");
        parishFault(4, HOUSE.repeat(2) + "way 1 ^1 5;");
        parishFault(4, HOUSE.repeat(3) + "way 0 1 5;way 1 2 5;way 0 ^1 5;");
        parishFault(4, HOUSE.repeat(3) + "way 0 1 5;way 1 2 5;way 1 ^0 5;");
        parishFault(1, HOUSE.repeat(2) + "way 0 1^;");
        parishFault(1, HOUSE.repeat(2) + "way 0 1 1 ^1;");
        StringBuilder ways = new StringBuilder(HOUSE.repeat(9));
        for (int a = 0; a < 9; a++) for (int b = 0; b < a; b++) ways.append("way ").append(a).append(' ').append(b).append(" 9;");
        parishSound(ways.toString(), 9, 0).ask("far 8 7 = 9", "far 0 8 = 9", "far 0 1 = 9");
        parishFault(4, ways + "way 0 ^8 9;");
        Due.says(Due.TERMS, "'part' H P G ['on' Q {',' Q}] ';' (12 PARTS at most: kept in a HOUSE, put in in P minutes, 0 .. 60, "
            + "GAIN 0 .. 99; behind PARTS told ahead).");
        parishSound(HOUSE.repeat(2) + "part 1 60 99;part 0 0 0 on 0;part 0 1 1 on 1,0;", 2, 3).ask(
            "part 0 0 = 1", "part 0 1 = 60", "part 0 2 = 99", "part 0 3 = 0", "part 1 0 = 0", "part 1 1 = 0", "part 1 2 = 0",
            "part 1 3 = 1", "part 2 3 = 3");
        parishFault(2, HOUSE + "part ^1 0 0;");
        parishFault(2, HOUSE + "part 0 ^61 0;");
        parishFault(2, HOUSE + "part 0 0 ^100;");
        parishFault(2, HOUSE + "part 0 0 0 on ^0;");
        parishFault(2, HOUSE + PART + "part 0 0 0 on 0,^1;");
        parishFault(1, HOUSE + "part 0 0^;");
        parishFault(1, HOUSE + PART + "part 0 0 0 ^0;");
        parishFault(1, HOUSE + PART + "part 0 0 0 on^;");
        parishFault(1, HOUSE + PART + "part 0 0 0 on 0,^;");
        parishFault(1, HOUSE + PART + "part 0 0 0^,0;");
        parishFault(1, HOUSE + PART + "part 0 0 0 on 0 ^on 0;");
        parishSound(HOUSE + PART.repeat(12), 1, 12);
        parishFault(3, HOUSE + PART.repeat(12) + "^" + PART);
        parishSound(HOUSE + PART.repeat(11) + "part 0 0 0 on 10,9,8,7,6,5,4,3,2,1,0;", 1, 12).ask("part 11 3 = 2047");
        parishFault(2, HOUSE + PART.repeat(11) + "part 0 0 0 on 10,9,8,7,6,5,4,3,2,1,0,^11;");
        parishFault(4, HOUSE + PART.repeat(11) + "part 0 0 0 on 10,9,8,7,6,5,4,3,2,1,0,^5;");
    }

    private static void planClauses() {
        Due.says(Due.TERMS, "THE PLAN is told in a text (200 bytes at most): clauses 'wake' A B ';'");
        planSound("wake 0 1;" + " ".repeat(182) + "wake 0 2;", 2).ask("told 2 = 2");
        Asked.usual().tell("wake 0 1;" + " ".repeat(183) + "wake 0 2;").ask("plan = NOT", "told 3 = 201", "told 2 = 2");
        planSound("", 0).ask("told 2 = 0", "awake 2 1 = NONE");
        Due.says(Due.TERMS, "(20 at most; two unlike HOUSES; a B that is told already as B: FAULT 4).");
        // nine HOUSES have nine B's, so that FAULT 4 comes ahead of the 21st
        String nine = "wake 8 0;wake 0 1;wake 0 2;wake 0 3;wake 0 4;wake 0 5;wake 0 6;wake 0 7;wake 0 8;";
        planSound(nine, 9).ask("told 2 = 9");
        planFault(4, nine + "wake 1 ^0;");
        planFault(4, "wake 0 1;wake 2 ^1;");
        planFault(4, "wake 0 1;wake 0 ^1;");
        planFault(4, "wake 3 ^3;");
        planSound("wake 0 1;wake 0 2;wake 1 0;", 3).ask("told 2 = 3");
        planFault(2, "wake ^9 0;");
        planFault(2, "wake 0 ^9;");
        planFault(1, "wake 0^;");
        planFault(1, "wake 0 1 ^2;");
        planFault(1, "^house 0 0 0 0 0 0;");
    }

    private static void wordsAndNumbers() {
        Due.says(Due.TERMS, "NUMBERS have one to three figures;");
        parishSound("house 9 09 009 99 099 100;", 1, 0).ask("house 0 0 = 9", "house 0 1 = 9", "house 0 2 = 9", "house 0 4 = 99");
        parishFault(2, "house ^0009 0 0 0 0 0;");
        Due.says(Due.TERMS, "words are letters a .. z side by side;");
        parishFault(1, "^houses 0 0 0 0 0 0;");
        parishFault(1, "^hous 0 0 0 0 0 0;");
        parishFault(1, "^House 0 0 0 0 0 0;");
        parishFault(1, "house^S 0 0 0 0 0 0;");
        parishFault(1, "house^` 0 0 0 0 0 0;");
        parishFault(1, "house^{ 0 0 0 0 0 0;");
        parishFault(1, "house" + "^" + (char) 233 + " 0 0 0 0 0 0;");
        parishFault(1, "^ahouse 0 0 0 0 0 0;");
        parishFault(1, "^housez 0 0 0 0 0 0;");
        Due.says(Due.TERMS, "blanks (32) may stand anywhere but within words and NUMBERS;");
        parishSound("  house  1  2  3  4  5  6  ;  part  0  7  8  ;  part  0  0  0  on  0  ;  part 0 0 0 on 0  ,  1 ; ", 1, 3)
            .ask("house 0 5 = 6", "part 0 2 = 8", "part 2 3 = 3");
        planSound("  wake  0  1  ;  ", 1);
        parishSound("     ", 0, 0);
        parishFault(1, "^hou se 0 0 0 0 0 0;");
        parishFault(1, "house 0 0 0 0 0 1 ^0;");
        for (char other : new char[] {0, 9, 10, 13, 31, 33, 127, 160, 255}) {
            parishFault(1, "house 0 0^" + other + "0 0 0 0;");
        }
        Due.says(Due.TERMS, "two words, two NUMBERS side by side need one.");
        parishFault(1, "^househouse 0 0 0 0 0 0;");
        parishFault(1, "house ^house 0 0 0 0 0 0;");
        parishFault(1, "house 00 0 0 0 0^;");
        parishSound("house1 2 3 4 5 6;part0 0 0;part0 0 7on0;", 1, 2).ask("house 0 0 = 1", "part 1 2 = 7", "part 1 3 = 1");
        planSound("wake0 1;wake1 2;", 2);
    }

    private static void faults() {
        Due.says(Due.TERMS, "FAULTS, at the first byte that has one (the end at the text's length), of these the least:");
        parishFault(2, "house ^61 x");
        parishFault(1, "house ^x 61");
        parishFault(4, HOUSE + "way 0 ^0 1000;part 9 9 999;");
        parishFault(1, "house 0 0 0 0 0 0^");
        parishFault(1, "house 0 0 0 0 0 0   ^");
        parishFault(1, "house^");
        parishFault(1, HOUSE + "^w");
        planFault(1, "wake 0 1^");
        planFault(1, "wake ^");
        // two at one byte
        parishFault(1, "house 0 0 0 0 0 0 ^1000;");
        parishFault(1, "^1000");
        parishFault(2, HOUSE + "way 0 ^0000 5;");
        parishFault(2, HOUSE + PART + "part 0 0 0 on 0,^0000;");
        planFault(2, "wake 1 ^0001;");
        Due.says(Due.TERMS, "1 it cannot stand there (a word that cannot: at its first letter).");
        parishFault(1, "^wake 0 1;");
        parishFault(1, "^on 0;");
        parishFault(1, "^;");
        parishFault(1, "^,");
        parishFault(1, HOUSE + "^;");
        parishFault(1, HOUSE + "^0");
        parishFault(1, "house 0 0^, 0 0 0 0;");
        parishFault(1, "house 0 ^-1 0 0 0 0;");
        parishFault(1, "house 0 ^+1 0 0 0 0;");
        parishFault(1, "house 0 ^on 0 0 0 0;");
        parishFault(1, HOUSE + "part 0 0 0 ^in 0;");
        parishFault(1, HOUSE + "part 0 0 0 ^part 0 0 0;");
        parishFault(1, HOUSE + "part 0 0 ^on 0;");
        planFault(1, "^way 0 1;");
        planFault(1, "^wakes 0 1;");
        planFault(1, "wake ^on 1;");
        planFault(1, "wake 0^,1;");
        Due.says(Due.TERMS, "2 a NUMBER of four figures or more, or out of its bounds; a HOUSE, a PART that was not told yet (at its first).");
        parishFault(2, "house ^0000 0 0 0 0 0;");
        parishFault(2, "house ^4294967296 0 0 0 0 0;");
        parishFault(2, "house ^" + "0".repeat(590));
        parishFault(2, "house ^999 0 0 0 0 0;");
        parishFault(2, "way ^0 1 5;" + HOUSE + HOUSE);
        parishFault(2, HOUSE + "way 0 ^1 5;" + HOUSE);
        parishFault(2, HOUSE.repeat(9) + "way 0 ^9 5;");
        parishFault(2, "part ^0 0 0;" + HOUSE);
        parishFault(2, HOUSE + PART + "part 0 0 0 on ^1;");
        parishFault(2, HOUSE + PART.repeat(11) + "part 0 0 0 on ^11;");
        planFault(2, "wake ^1000 0;");
        planFault(2, "wake 0 ^100;");
        new Asked().tell("wake 0 1;").ask("plan = -12", "fault = 5");
        Due.says(Due.TERMS, "3 a tenth HOUSE, a 13th PART, a 21st 'wake' (at its first letter).");
        parishFault(3, HOUSE.repeat(9) + "   ^house 61");
        parishFault(3, HOUSE.repeat(9) + "^house");
        parishFault(1, HOUSE.repeat(9) + "^houses");
        parishFault(1, HOUSE.repeat(9) + "^horse 0 0 0 0 0 0;");
        parishFault(1, HOUSE + PART.repeat(12) + "^port 0 0 0;");
        parishFault(3, HOUSE + PART.repeat(12) + " ^part 9");
        parishFault(3, HOUSE.repeat(9) + PART.repeat(12) + "^house");
        Due.says(Due.TERMS, "4 a way from one to itself, two again; a Q again; 'wake' of itself (at the B, the Q).");
        parishFault(4, HOUSE + "way 0 ^00 100");
        parishFault(4, HOUSE.repeat(3) + "way 2 0 5;way 0 ^2");
        parishFault(4, HOUSE + PART + "part 0 0 0 on 0, ^00,7;");
        parishFault(4, HOUSE + PART.repeat(2) + "part 0 0 0 on 1,0,^1;");
        parishSound(HOUSE + PART + "part 0 0 0 on 0;part 0 0 0 on 0;", 1, 3);
        planFault(4, "wake 0 ^00");
        planFault(4, "wake 0 1;wake 1 2;wake 2 ^001,");
    }

    private static void far() {
        Due.says(Due.TERMS, "FAR is how many minutes it takes from HOUSE to HOUSE by ways, the fewest; 500, if there is none or it is more.");
        String line = HOUSE.repeat(8) + "way 0 1 99;way 1 2 99;way 2 3 99;way 3 4 99;way 4 5 99;";
        parishSound(line + "way 5 6 4;", 8, 0).ask("far 0 5 = 495", "far 0 6 = 499", "far 6 0 = 499", "far 0 7 = 500", "far 7 7 = 0");
        parishSound(line + "way 5 6 5;", 8, 0).ask("far 0 6 = 500", "far 1 6 = 401");
        parishSound(line + "way 5 6 6;", 8, 0).ask("far 0 6 = 500", "far 6 0 = 500");
        parishSound(line + "way 5 6 99;way 6 7 99;", 8, 0).ask("far 0 7 = 500", "far 1 7 = 500", "far 2 7 = 495");
        parishSound(HOUSE.repeat(4) + "way 0 1 99;way 0 2 40;way 2 3 20;way 3 1 38;", 4, 0).ask("far 0 1 = 98", "far 1 0 = 98", "far 2 1 = 58");
        parishSound(HOUSE.repeat(4) + "way 0 1 99;way 0 2 40;way 2 3 20;way 3 1 39;", 4, 0).ask("far 0 1 = 99");
    }

    private static void newObject() {
        Due.says(1, "No HOUSES, no PLAN.");
        new Asked().ask("told 0 = 0", "told 1 = 0", "told 2 = 0", "told 3 = 0", "told 4 = 0", "told 5 = 0", "told 6 = 0", "fault = NONE",
            "house 0 0 = UNKNOWN", "far 0 0 = UNKNOWN", "part 0 0 = UNKNOWN", "away 0 = 0", "away 1 = UNKNOWN", "awake 0 0 = UNKNOWN",
            "comes 0 0 0 = UNKNOWN", "stands 0 0 = UNKNOWN", "put 0 0 0 = UNKNOWN", "waited 0 0 = UNKNOWN", "odds 0 0 0 0 = UNKNOWN",
            "night 0 = 0", "seed 0 = 0", "crier 0 0 NONE = UNKNOWN", "keepAt 0 0 = UNKNOWN", "kept 0 0 0 = UNKNOWN", "reach 0 = 0",
            "reach 1 = UNKNOWN", "needed 0 = 0", "needed 1 = NONE", "fit 0 0 = UNKNOWN", "ladders 0 0 = 1", "ladders 0 1 = OUTSIDE",
            "ladders 1 0 = UNKNOWN", "longest 0 = 0", "longest 1 = UNKNOWN", "cost 0 0 = UNKNOWN", "store 0 = UNKNOWN",
            "spares 0 0 0 0 = UNKNOWN", "two 0 0 0 0 = UNKNOWN", "log 0 0 = UNKNOWN", "clear = 0", "late 0 0 0 = UNKNOWN",
            "judge 0 0 0 = UNKNOWN", "goBack 0 = NOT", "goBack 1 = NOT", "keep 0 = 1", "goBack 0 = 1", "plan = 0", "parish = 0");
    }

    private static void feed() {
        Due.says(2, "Up to eight bytes (n 1 .. 8) of a long, the highest of these first, come behind THE TEXT: how many it has.");
        for (int n = 1; n <= 8; n++) {
            Asked x = new Asked();
            Due.due("feed of " + n, x.feed(n, -1L), n);
            Due.due("feed of 1", x.feed(1, 32), n + 1);
            x.ask("parish = -11", "fault = 0");
        }
        Asked word = new Asked();
        // the bytes above those asked for are passed over: "house 0 " with '?' ahead of 'h', then of "se 0 "
        Due.due("feed(3)", word.feed(3, 0x3f3f3f3f3f686f75L), 3);
        Due.due("feed(5)", word.feed(5, 0x3f3f3f7365203020L), 8);
        word.tell("0 0 0 0 0;").ask("parish = 1");
        Asked highest = new Asked();
        Due.due("a byte above 127", highest.feed(8, 0x20202020202020ffL), 8);
        highest.ask("parish = -11", "fault = 7");
        Asked top = new Asked();
        Due.due("a long below 0", top.feed(8, 0xff20202020202020L), 8);
        top.ask("parish = -11", "fault = 0");
        Due.says(2, "OUTSIDE, FULL (600).");
        Asked x = new Asked();
        for (int n : new int[] {0, 9, -1, -8, Integer.MIN_VALUE, Integer.MAX_VALUE}) Due.due("feed of " + n, x.feed(n, 32), NineHouses.OUTSIDE);
        x.ask("told 3 = 0").tell(" ".repeat(592));
        Due.due("the last eight", x.feed(8, 0x2020202020202020L), 600);
        for (int n = 1; n <= 8; n++) Due.due("feed of " + n + " at 600", x.feed(n, 32), NineHouses.FULL);
        Due.due("feed of 0 at 600", x.feed(0, 32), NineHouses.OUTSIDE);
        Due.due("feed of 9 at 600", x.feed(9, 32), NineHouses.OUTSIDE);
        x.ask("told 3 = 600", "parish = 0", "told 3 = 0").tell(" ".repeat(593));
        Due.due("feed of 8 at 593", x.feed(8, 0x3b3b3b3b3b3b3b3bL), NineHouses.FULL);
        x.ask("told 3 = 593");
        Due.due("feed of 7 at 593", x.feed(7, 0x20202020202020L), 600);
        // nothing of what was refused came in
        x.ask("parish = 0");
    }

    private static void parish() {
        Due.says(3, "THE TEXT (it is empty then) becomes THE PARISH");
        parishSound(HOUSE, 1, 0).ask("parish = 0", "told 0 = 0", "told 1 = 0", "far 0 0 = UNKNOWN");
        Due.says(3, "(no PLAN, nobody AWAY, FITS each its own, coins 10, THE STORE 0, no LOG, IMAGES are gone)");
        Asked x = Asked.usual().ask("away 7 = 0", "fit 0 14 = 1", "fit 3 7 = 8", "cost 0 0 = 10", "cost 3 99 = 10", "store 2 = 0",
            "log 0 1 = 1", "log 3 1 = 2", "keepAt 0 2 = 0", "keep 0 = 1", "keep 1 = 1", "seed 77 = 0").tell(Asked.USUAL_PARISH);
        x.ask("parish = 3", "told 2 = 0", "told 4 = 0", "part 0 5 = 1", "part 3 5 = 8", "part 0 4 = 10", "part 3 4 = 10", "told 5 = 0",
            "told 6 = 0", "late 0 0 0 = 0", "part 0 0 = 0", "goBack 0 = NOT", "goBack 1 = NOT", "awake 0 1 = NONE", "seed 0 = 77");
        Due.says(3, ": how many HOUSES; -10 less the number of its FAULT (all is as it was).");
        parishSound(HOUSE.repeat(9), 9, 0);
        parishFault(1, "^barn;");
        Asked y = Asked.usual().ask("away 6 = 0", "fit 0 14 = 1", "cost 0 0 = 10", "store 2 = 0", "log 0 1 = 1", "keepAt 0 2 = 0",
            "seed 77 = 0", "keep 0 = 1");
        for (String spoilt : new String[] {";", "house;", "way;", "part;", "part 0 0 0 on;"}) {
            y.tell(HOUSE + HOUSE + "way 0 1 1;part 1 2 3;" + spoilt).ask("parish = -11");
            y.ask("told 0 = 3", "told 1 = 4", "told 2 = 2", "told 3 = 0", "told 4 = 6", "told 5 = 2", "told 6 = 1", "house 0 0 = 3",
                "far 0 1 = 10", "part 0 0 = 2", "part 1 3 = 1", "part 0 4 = 0", "part 0 5 = 15", "goBack 1 = NOT", "goBack 0 = 1");
        }
        y.ask("seed 0 = 77", "awake 0 1 = NONE", "away 0 = 6", "awake 0 2 = 38");
    }

    private static void plan() {
        Due.says(4, "THE TEXT (it is empty then) becomes THE PLAN: how many clauses;");
        planSound("wake 0 1;wake 1 2;", 2).ask("told 2 = 2", "awake 2 1 = NONE", "awake 0 2 = 1000", "plan = 0", "told 2 = 0", "awake 0 1 = NONE");
        Due.says(4, "-10 less the number of its FAULT (it is as it was).");
        Asked x = Asked.usual().ask("away 1 = 0", "keep 0 = 1").tell("wake 2 1;wake 1 1;");
        x.ask("plan = -14", "fault = 16", "told 2 = 2", "told 3 = 0", "awake 0 2 = 38", "awake 2 1 = NONE", "told 4 = 1", "goBack 0 = 1");
        x.tell("wake 2 1;wake 3 0;").ask("plan = -12", "fault = 14", "told 2 = 2", "awake 0 2 = 38");
        x.tell("wake 2 1").ask("plan = -11", "fault = 8", "told 2 = 2", "awake 0 2 = 38");
        Due.says(4, "NOT: more than 200 bytes (THE TEXT stays).");
        String padded = "wake 0 2;" + " ".repeat(191);
        Asked.usual().tell(padded).ask("plan = 1", "told 3 = 0", "awake 0 2 = 31");
        Asked y = Asked.usual().tell(padded + " ").ask("plan = NOT", "told 3 = 201", "told 2 = 2", "awake 0 2 = 38", "plan = NOT", "told 3 = 201");
        Due.due("feed behind it", y.feed(1, ';'), 202);
        y.ask("parish = -11", "fault = 0", "told 3 = 0", "plan = 0");
        Asked.usual().tell(" ".repeat(600)).ask("plan = NOT", "told 3 = 600", "parish = 0");
    }

    private static void fault() {
        Due.says(5, "The byte of the FAULT of the latest parish() or plan() that was not NOT; NONE.");
        new Asked().ask("fault = NONE", "parish = 0", "fault = NONE").tell("x").ask("fault = NONE", "parish = -11", "fault = 0", "fault = 0")
            .tell("  x").ask("fault = 0", "plan = -11", "fault = 2").tell(" ".repeat(201)).ask("plan = NOT", "fault = 2", "parish = 0", "fault = NONE");
        Asked.usual().tell("wake 0 0;").ask("plan = -14", "fault = 7").tell(HOUSE).ask("parish = 1", "fault = NONE").tell("house").ask(
            "parish = -11", "fault = 5", "plan = 0", "fault = NONE");
        parishFault(1, "house 0 0 0 0 0 0" + " ".repeat(583) + "^");
    }

    private static void told() {
        Due.says(6, "How many: 0 HOUSES, 1 PARTS, 2 clauses of THE PLAN, 3 bytes of THE TEXT, 4 AWAY (the SET), 5 THE STORE, 6 PARTS of the LOG.");
        Asked x = Asked.usual().tell("12345").ask("away 6 = 0", "store 1 = 0", "log 3 0 = 1", "log 2 999 = 2");
        x.ask("told 0 = 3", "told 1 = 4", "told 2 = 2", "told 3 = 5", "told 4 = 6", "told 5 = 1", "told 6 = 2");
        Due.says(6, "OUTSIDE.");
        x.ask("told -1 = OUTSIDE", "told 7 = OUTSIDE", "told MIN = OUTSIDE", "told MAX = OUTSIDE");
    }

    private static void houseFarPart() {
        Asked x = Asked.usual();
        Due.says(7, "Of a HOUSE: what = 0 WAKE, 1 KEY, 2 to 5 its ODDS, 6 PARTS kept there (a SET).");
        x.ask("house 0 0 = 3", "house 0 1 = 5", "house 0 2 = 10", "house 0 3 = 20", "house 0 4 = 30", "house 0 5 = 40", "house 0 6 = 1",
            "house 2 0 = 1", "house 2 1 = 9", "house 2 2 = 0", "house 2 3 = 0", "house 2 4 = 25", "house 2 5 = 99", "house 2 6 = 12",
            "keepAt 3 0 = 2", "house 0 6 = 9", "house 2 6 = 4", "keepAt 2 0 = 2", "house 2 6 = 0", "house 0 6 = 13");
        Due.says(7, "UNKNOWN, OUTSIDE.");
        x.ask("house -1 0 = UNKNOWN", "house 3 0 = UNKNOWN", "house 0 -1 = OUTSIDE", "house 0 7 = OUTSIDE", "house 3 7 = UNKNOWN");
        Due.says(8, "FAR.");
        x.ask("far 0 0 = 0", "far 0 1 = 10", "far 0 2 = 30", "far 2 0 = 30", "far 2 2 = 0");
        Due.says(8, "UNKNOWN.");
        x.ask("far -1 0 = UNKNOWN", "far 0 -1 = UNKNOWN", "far 3 0 = UNKNOWN", "far 0 3 = UNKNOWN");
        Due.says(9, "Of a PART: what = 0 HOUSE, 1 P, 2 GAIN, 3 those it goes in behind (a SET), 4 what its spare costs, 5 FITS of its SLOT (a SET).");
        Asked.usual().ask("part 0 0 = 0", "part 0 1 = 4", "part 0 2 = 6", "part 0 3 = 0", "part 0 4 = 10", "part 0 5 = 1",
            "part 3 0 = 2", "part 3 1 = 1", "part 3 2 = 1", "part 3 3 = 6", "part 3 4 = 10", "part 3 5 = 8",
            "keepAt 3 1 = 2", "cost 3 7 = 10", "fit 3 1 = 8", "part 3 0 = 1", "part 3 4 = 7", "part 3 5 = 9");
        Due.says(9, "UNKNOWN, OUTSIDE.");
        x.ask("part -1 0 = UNKNOWN", "part 4 0 = UNKNOWN", "part 0 -1 = OUTSIDE", "part 0 6 = OUTSIDE", "part 4 6 = UNKNOWN");
    }
}
