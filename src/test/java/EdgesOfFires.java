/** The edges of what the Terms tell of a FIRE, and of promises 10 to 18. */
final class EdgesOfFires {
    private static final String HOUSE = Asked.HOUSE;
    /** Four HOUSES in a row, ten minutes from one to the next, a PART of one minute in each. */
    private static final String LINE = "house 1 2 0 0 0 0;house 3 4 0 0 0 0;house 5 6 0 0 0 0;house 7 8 0 0 0 0;"
        + "way 0 1 10;way 1 2 10;way 2 3 10;part 0 1 1;part 1 1 1;part 2 1 1;part 3 1 1;";
    /** At a FIRE at 0 that is seen there, what is kept at 0 comes at 0, what is kept at 1 at 10. */
    private static final String PAIR = HOUSE + HOUSE + "way 0 1 5;";

    private EdgesOfFires() { }

    static void run() {
        firstAndAway();
        wakersAndRounds();
        putIn();
        standsAndWaited();
        meanAndWorst();
        night();
        crier();
        awayAwakeComes();
        standsPutWaited();
        oddsNightCrier();
    }

    private static Asked line(String plan) {
        return Asked.of(LINE, plan);
    }

    private static Asked pair(String parts) {
        return Asked.of(PAIR + parts, "wake 0 1;");
    }

    private static void putDue(Asked x, int... order) {
        for (int i = 0; i < order.length; i++) Due.due("put(0, 0, " + i + ")", x.call("put", 0, 0, i), order[i]);
        Due.due("put(0, 0, " + order.length + ")", x.call("put", 0, 0, order.length), NineHouses.NONE);
    }

    private static void firstAndAway() {
        Due.says(Due.TERMS, "A FIRE is at a HOUSE; FIRST is the HOUSE whose folk see it: they are awake at minute 0 (away or not).");
        line("").ask("awake 0 0 = 0", "awake 3 3 = 0", "comes 0 0 0 = 0", "comes 3 0 0 = 30", "comes 0 3 3 = 30",
            "away 15 = 0", "awake 0 0 = 0", "awake 3 3 = 0", "comes 0 0 0 = 0", "comes 3 0 0 = 30", "comes 0 3 3 = 30");
        Due.says(Due.TERMS, "AWAY is a SET of HOUSES (told; none at first; FIRST is never away).");
        line("wake 0 1;").ask("told 4 = 0", "awake 0 1 = 13", "away 1 = 0", "awake 0 1 = 13", "comes 0 0 1 = 23", "away 2 = 1",
            "awake 0 1 = NONE", "comes 0 0 1 = 24", "awake 1 1 = 0", "comes 0 1 1 = 10", "told 4 = 2");
        Due.says(Due.TERMS, "Of each HOUSE whose folk are awake one goes at once with all its PARTS to the FIRE;");
        line("wake 0 1;").ask("comes 0 0 1 = 23", "comes 1 0 1 = 13", "comes 3 0 1 = 33", "keepAt 3 1 = 3", "comes 0 0 3 = 23",
            "comes 3 0 3 = 33", "keepAt 0 1 = 0", "comes 0 0 0 = 23", "comes 1 0 0 = 13");
    }

    private static void wakersAndRounds() {
        Due.says(Due.TERMS, "another one wakes by THE PLAN: at B of each 'wake' of that HOUSE, in order, from HOUSE to HOUSE by FAR.");
        line("wake 0 1;wake 0 2;wake 0 3;").ask("awake 0 1 = 13", "awake 0 2 = 25", "awake 0 3 = 37");
        line("wake 0 1;wake 0 3;wake 0 2;").ask("awake 0 1 = 13", "awake 0 2 = 45", "awake 0 3 = 37");
        line("wake 0 1;wake 1 3;wake 0 2;").ask("awake 0 1 = 13", "awake 0 2 = 25", "awake 0 3 = 40");
        line("wake 2 3;wake 1 2;wake 0 1;").ask("awake 0 1 = 13", "awake 0 2 = 28", "awake 0 3 = 45", "awake 2 3 = 17", "awake 2 1 = NONE");
        Asked.of(HOUSE.repeat(3), "wake 0 1;wake 1 2;").ask("awake 0 1 = 500", "awake 0 2 = 1000");
        Due.says(Due.TERMS, "Folk of a B that are not AWAY are awake WAKE minutes behind that (the waker goes on at once).");
        Asked.of("house 0 60 0 0 0 0;house 60 60 0 0 0 0;house 0 60 0 0 0 0;way 0 1 1;way 1 2 1;", "wake 0 1;wake 0 2;")
            .ask("awake 0 1 = 61", "awake 0 2 = 2", "away 1 = 0", "awake 0 1 = 61", "awake 0 2 = 2");
        Due.says(Due.TERMS, "If they are AWAY, the waker needs KEY minutes there, takes its PARTS along, and goes on;");
        Asked x = line("wake 0 1;wake 0 3;wake 0 2;").ask("away 2 = 0", "awake 0 1 = NONE", "awake 0 3 = 41", "awake 0 2 = 49",
            "comes 2 0 1 = 44", "comes 2 0 3 = 51", "comes 2 0 2 = 49", "comes 2 0 0 = 20");
        // the KEY is asked for even where nothing is kept
        x.ask("keepAt 1 0 = 1", "awake 0 3 = 41", "comes 2 0 1 = 20");
        Asked.of("house 0 0 0 0 0 0;house 0 60 0 0 0 0;house 0 0 0 0 0 0;way 0 1 1;way 1 2 1;part 1 0 0;part 2 0 0;", "wake 0 1;wake 0 2;")
            .ask("away 6 = 0", "comes 2 0 0 = 62", "comes 2 0 1 = 62", "away 4 = 6", "comes 2 0 0 = 2", "comes 2 0 1 = 2");
        Due.says(Due.TERMS, "with such PARTS the waker goes from the last B to the FIRE.");
        line("wake 0 1;wake 0 3;wake 0 2;").ask("away 2 = 0", "comes 0 0 1 = 64", "comes 1 0 1 = 54", "comes 3 0 1 = 54", "away 14 = 2",
            "comes 2 0 1 = 58", "comes 2 0 2 = 58", "comes 2 0 3 = 58", "comes 0 0 1 = 78", "away 4 = 14", "comes 2 0 2 = 46", "comes 0 0 2 = 66");
        line("wake 0 1;").ask("away 2 = 0", "comes 0 0 1 = 24", "comes 1 0 1 = 14");
        line("wake 3 2;wake 3 0;").ask("away 1 = 0", "comes 0 3 0 = 32", "comes 3 3 0 = 62", "away 5 = 1", "comes 0 3 0 = 38", "comes 0 3 2 = 38");
        Due.says(Due.TERMS, "A B that is FIRST is passed: the waker comes there all the same, and goes on at once.");
        line("wake 1 0;wake 1 2;wake 0 1;").ask("awake 0 1 = 13", "awake 0 2 = 48", "awake 0 0 = 0", "comes 1 0 0 = 10",
            "away 1 = 0", "awake 0 2 = 48", "awake 0 0 = 0", "comes 1 0 0 = 10");
        line("wake 0 1;wake 1 2;wake 1 0;").ask("away 4 = 0", "comes 0 0 2 = 49", "comes 2 0 2 = 69", "comes 2 0 0 = 20",
            "away 5 = 4", "comes 0 0 2 = 49", "comes 2 0 2 = 69", "comes 2 0 0 = 20");
        Due.says(Due.TERMS, "(Folk that are never awake wake nobody.)");
        line("wake 1 2;wake 2 3;").ask("awake 0 1 = NONE", "awake 0 2 = NONE", "awake 0 3 = NONE", "awake 1 2 = 15", "awake 1 3 = 32");
        line("wake 0 1;wake 1 2;").ask("away 2 = 0", "awake 0 2 = NONE", "comes 0 0 2 = NONE", "awake 1 2 = 15");
        line("wake 1 2;wake 2 1;").ask("awake 0 1 = NONE", "awake 0 2 = NONE", "awake 1 2 = 15", "awake 2 1 = 13", "awake 1 1 = 0");
        Due.says(Due.TERMS, "COMES of a PART: the minute at which it is at the FIRE; NONE: never.");
        // at a HOUSE that is not told, that is AWAY and not told, and told by folk that never wake
        line("wake 0 1;wake 2 3;").ask("comes 0 0 0 = 0", "comes 0 0 1 = 23", "comes 0 0 2 = NONE", "comes 0 0 3 = NONE",
            "away 12 = 0", "comes 0 0 2 = NONE", "comes 0 0 3 = NONE", "comes 2 2 3 = 28");
    }

    private static void putIn() {
        Due.says(Due.TERMS, "PUT IN: one by one, each not ahead of its COMING, not ahead of all PARTS it goes in behind:");
        pair("part 0 3 0;part 0 4 0;").ask("stands 0 0 = 7", "stands 1 0 = 12");
        pair("part 1 3 0;part 0 4 0;").ask("put 0 0 0 = 1", "put 0 0 1 = 0", "stands 0 0 = 13");
        pair("part 1 3 0;part 0 4 0 on 0;").ask("put 0 0 0 = 0", "put 0 0 1 = 1", "stands 0 0 = 17");
        pair("part 0 3 0;part 1 2 0;part 0 1 0 on 0,1;").ask("put 0 0 1 = 1", "put 0 0 2 = 2", "stands 0 0 = 13");
        pair("part 1 3 0;part 0 2 0;part 0 1 0 on 0,1;part 0 1 0 on 1;").ask("put 0 0 0 = 1", "put 0 0 1 = 3", "put 0 0 2 = 0", "put 0 0 3 = 2",
            "stands 0 0 = 14");
        Due.says(Due.TERMS, "READY of a PART is its COMING, or, if that is later, the minute at which a PART it goes in behind "
            + "could be in at the earliest (READY of that and its P);");
        // as if each had the ladder alone: 3 could be in at 2, though 1 is not in ahead of 11
        putDue(pair("part 0 9 0;part 0 2 0;part 0 1 0 on 0;part 0 1 0 on 1;").ask("stands 0 0 = 13"), 0, 1, 3, 2);
        putDue(pair("part 0 2 0;part 0 2 0 on 0;part 0 2 0 on 1;part 0 1 0 on 0;"), 0, 1, 3, 2);
        putDue(pair("part 0 2 0;part 1 1 0 on 0;part 0 7 0 on 0;").ask("stands 0 0 = 11"), 0, 2, 1);
        // the later of two, and a COMING that is the later one by one minute, or is not
        putDue(pair("part 0 3 0;part 0 4 0;part 0 1 0 on 0,1;part 0 1 0 on 0;"), 0, 1, 3, 2);
        putDue(pair("part 0 9 0;part 1 0 0 on 0;part 0 0 0 on 0;"), 0, 2, 1);
        putDue(pair("part 0 10 0;part 1 0 0 on 0;part 0 0 0 on 0;"), 0, 1, 2);
        putDue(pair("part 0 11 0;part 0 0 0 on 0;part 1 0 0;"), 0, 2, 1);
        Due.says(Due.TERMS, "they are put in by READY, of like ones the lesser PART, each as soon as it can be.");
        putDue(pair("part 1 1 0;part 0 20 0;").ask("stands 0 0 = 21"), 1, 0);
        putDue(pair("part 0 1 0;".repeat(12)).ask("stands 0 0 = 12"), 0, 1, 2, 3, 4, 5, 6, 7, 8, 9, 10, 11);
        putDue(pair("part 0 0 0;part 0 0 0 on 0;part 0 0 0 on 1;part 0 0 0;").ask("stands 0 0 = 0"), 0, 1, 2, 3);
        putDue(pair("part 1 1 0;part 0 1 0;part 1 1 0;part 0 1 0;").ask("stands 0 0 = 12"), 1, 3, 0, 2);
    }

    private static void standsAndWaited() {
        Due.says(Due.TERMS, "STANDS: the minute at which all are in; NONE: some PART never COMES.");
        pair("").ask("stands 0 0 = 0", "stands 1 0 = 0");
        pair("part 0 0 0;").ask("stands 0 0 = 0", "stands 1 0 = 5", "stands 0 1 = NONE");
        pair("part 0 60 0;part 1 0 0;").ask("stands 0 0 = 60", "stands 0 1 = NONE", "stands 1 1 = NONE");
        Due.says(Due.TERMS, "WAITED: the last PART put in that began at its own COMING, later than the one ahead was in (or the first one of all); NONE.");
        pair("part 0 3 0;part 0 4 0;").ask("waited 0 0 = 0", "waited 1 0 = 0");
        pair("part 1 3 0;").ask("waited 0 0 = 0", "waited 1 1 = 0");
        pair("part 0 9 0;part 1 1 0;").ask("waited 0 0 = 1");
        pair("part 0 10 0;part 1 1 0;").ask("waited 0 0 = 0");
        pair("part 0 11 0;part 1 1 0;").ask("waited 0 0 = 0");
        pair("part 0 2 0;part 1 9 0;part 0 1 0 on 1;").ask("waited 0 0 = 1", "put 0 0 2 = 2");
        pair("part 0 0 0;part 1 5 0;part 1 1 0;").ask("waited 0 0 = 1");
        line("wake 0 1;wake 0 2;wake 0 3;").ask("waited 0 0 = 3", "keepAt 3 0 = 3", "waited 0 0 = 2", "keepAt 2 0 = 2", "waited 0 0 = 1",
            "keepAt 1 0 = 1", "waited 0 0 = 0");
        pair("").ask("waited 0 0 = NONE");
        pair("part 0 1 0;part 1 1 0;").ask("waited 0 1 = NONE");
    }

    private static void meanAndWorst() {
        // with folk of 1 at home the ladder stands at 10, with them AWAY at 19
        String early = "house 0 9 100 100 100 100;house 0 9 0 100 50 1;way 0 1 5;part 1 0 0;";
        Due.says(Due.TERMS, "QUARTER q (0 .. 3): MEAN: over all SETS of HOUSES that may be AWAY (FIRST not):");
        Asked.of(early, "wake 0 1;").ask("odds 0 0 0 0 = 10000", "odds 0 0 1 0 = 19000", "odds 0 0 2 0 = 14500", "odds 0 0 3 0 = 10090",
            "odds 0 1 0 0 = 5000", "odds 0 1 1 0 = 5000", "odds 0 1 2 0 = 5000", "away 3 = 0", "odds 0 0 0 0 = 10000", "told 4 = 3");
        Due.says(Due.TERMS, "of a BILLION, HOUSE by HOUSE parted: AWAY: times ODDS / 100 (cut), not: what is left;");
        // five times 33 of a hundred: the last part of each is cut, what is cut is not away
        String third = "house 0 1 33 0 0 0;".repeat(5) + "way 0 1 1;way 1 2 1;way 2 3 1;way 3 4 1;way 4 5 1;part 5 0 0;";
        Asked.of(HOUSE + third, "wake 0 1;wake 0 2;wake 0 3;wake 0 4;wake 0 5;").ask("odds 5 0 0 0 = 6649", "odds 5 0 1 0 = 5000");
        Asked.of("house 0 0 33 0 0 0;".repeat(9) + "part 0 7 0;", "").ask("odds 0 0 0 0 = 7000");
        Due.says(Due.TERMS, "the sum of these times STANDS (500 in place of NONE), / MILLION (cut).");
        Asked chain = Asked.of(HOUSE + "house 0 0 0 100 50 1;" + HOUSE + "way 0 1 1;way 1 2 1;part 2 0 0;", "wake 0 1;wake 1 2;");
        chain.ask("odds 2 0 0 0 = 2000", "odds 2 0 1 0 = 500000", "odds 2 0 2 0 = 251000", "odds 2 0 3 0 = 6980", "odds 2 2 1 0 = 0");
        // 5 if all five are AWAY, which is one of a BILLION, else 6: one less than 6000000000 is cut
        String nearly = "house 1 0 1 0 0 0;".repeat(4) + "house 1 0 10 0 0 0;way 0 1 1;way 1 2 1;way 2 3 1;way 3 4 1;way 4 5 1;"
            + "part 1 0 0;part 2 0 0;part 3 0 0;part 4 0 0;part 5 0 0;";
        Asked.of(HOUSE + nearly, "wake 0 1;wake 0 2;wake 0 3;wake 0 4;wake 0 5;").ask("odds 5 0 0 0 = 5999", "odds 5 0 1 0 = 6000", "odds 5 0 0 1 = 6");
        Asked.of(HOUSE + HOUSE + "part 1 60 0;", "wake 0 1;").ask("odds 0 0 0 0 = 1060000", "odds 0 0 0 1 = 1060");
        Asked.of(HOUSE + HOUSE + "part 1 60 0;", "").ask("odds 0 0 0 0 = 500000", "odds 0 0 0 1 = 500");
        Asked.of(HOUSE, "").ask("odds 0 0 0 0 = 0", "odds 0 0 0 1 = 0");
        Due.says(Due.TERMS, "WORST: the greatest STANDS of those above 0 (500 in place of NONE).");
        chain.ask("odds 2 0 0 1 = 2", "odds 2 0 1 1 = 500", "odds 2 0 2 1 = 500", "odds 2 0 3 1 = 500");
        Asked.of(HOUSE + "house 60 0 0 100 50 1;way 0 1 5;part 1 0 0;", "wake 0 1;")
            .ask("odds 0 0 0 1 = 70", "odds 0 0 1 1 = 10", "odds 0 0 2 1 = 70", "odds 0 0 3 1 = 70");
        // one of a hundred five times is less than one of a BILLION; with ten of a hundred at last it is just one
        String seldom = "house 0 60 1 1 1 1;".repeat(4) + "house 0 60 1 9 10 0;way 0 1 1;way 1 2 1;way 2 3 1;way 3 4 1;way 4 5 1;part 5 0 0;";
        Asked.of(HOUSE + seldom, "wake 0 1;wake 0 2;wake 0 3;wake 0 4;wake 0 5;")
            .ask("odds 5 0 0 1 = 245", "odds 5 0 1 1 = 245", "odds 5 0 2 1 = 305", "odds 5 0 3 1 = 245");
    }

    private static void night() {
        Due.says(Due.TERMS, "A NIGHT by draws: THE SEED (0 at first: each DRAW it becomes it times 1103515245 and 12345, "
            + "left over by 2 to the 31; the DRAW of n is it / 65536, left over by n):");
        Asked one = Asked.of("house 0 0 1 0 29 30;", "");
        one.ask("night 0 = 1", "seed 0 = 12345", "night 1 = 0", "seed 2147483647 = 12345", "night 2 = 0", "seed 2147483647 = 1043980748",
            "night 3 = 1", "seed 0 = 1043980748");
        Due.says(Due.TERMS, "AWAY becomes, HOUSE by HOUSE, those with a DRAW of 100 below their ODDS.");
        // DRAWS from 0 on: 0, 68, 88, 17, 98, 27; with ODDS 0 and 100 there is a DRAW too
        Asked.of("house 0 0 1 0 0 100;house 0 0 68 69 0 100;house 0 0 89 88 0 100;", "").ask("away 7 = 0", "night 0 = 5", "told 4 = 5",
            "seed 0 = 654583775", "night 1 = 2", "told 4 = 2", "seed 0 = 654583775", "night 2 = 0", "seed 0 = 654583775", "night 3 = 7",
            "told 4 = 7", "seed 0 = 654583775", "night 2 = 0", "night 0 = 4", "seed 0 = 1109335178");
        Asked.of("house 0 0 100 0 0 0;".repeat(9), "").ask("night 0 = 511", "night 1 = 0");
    }

    private static void crier() {
        Due.says(Due.TERMS, "THE CRIER: in place of THE PLAN folk of FIRST wake all other HOUSES that keep PARTS (7 at most, else NOT), nobody else wakes:");
        for (String plan : new String[] {"", "wake 0 3;wake 3 2;wake 3 1;", "wake 3 0;wake 1 2;"}) {
            line(plan).ask("crier 0 0 NONE = 68", "crier 0 0 0 = 1", "crier 0 0 1 = 2", "crier 0 0 2 = 3", "crier 0 0 3 = NONE",
                "keepAt 2 0 = 2", "crier 0 0 0 = 1", "crier 0 0 1 = 3", "crier 0 0 2 = NONE", "keepAt 1 0 = 1", "keepAt 3 0 = 3",
                "crier 0 0 0 = NONE", "crier 0 0 NONE = 4", "crier 3 0 NONE = 34");
        }
        StringBuilder ring = new StringBuilder(HOUSE.repeat(9) + "way 8 0 1;part 8 0 0;");
        for (int h = 0; h < 8; h++) ring.append("way ").append(h).append(' ').append(h + 1).append(" 1;part ").append(h).append(" 0 0;");
        Asked nine = Asked.of(ring.toString(), "");
        nine.ask("crier 0 0 NONE = NOT", "crier 0 8 0 = NOT", "keepAt 1 8 = 0", "crier 0 0 NONE = NOT", "crier 1 1 NONE = 9",
            "crier 1 1 0 = 2", "crier 1 1 6 = 8", "crier 1 1 7 = NONE", "crier 0 1 NONE = 8", "crier 0 1 0 = 2", "crier 0 1 6 = 8");
        Due.says(Due.TERMS, "the round with which STANDS is least (500 in place of NONE), of like ones the first (HOUSE by HOUSE the lesser ahead).");
        line("").ask("crier 0 1 NONE = 58", "crier 0 1 0 = 2", "crier 0 1 1 = 3", "crier 0 1 2 = 0",
            "away 2 = 0", "crier 0 0 NONE = 68", "crier 0 0 0 = 2", "crier 0 0 1 = 3", "crier 0 0 2 = 1", "told 4 = 2",
            "away 3 = 2", "crier 0 0 NONE = 68", "crier 0 0 0 = 2");
        // the last round of all, 7 to 1, is the only one without a way back
        StringBuilder back = new StringBuilder(HOUSE.repeat(8) + "way 0 7 1;part 7 0 0;");
        for (int h = 1; h < 7; h++) back.append("way ").append(h).append(' ').append(h + 1).append(" 1;part ").append(h).append(" 0 0;");
        Asked last = Asked.of(back.toString(), "").ask("crier 1 0 NONE = 7");
        for (int i = 0; i < 7; i++) last.ask("crier 1 0 " + i + " = " + (7 - i));
        everyRound(new int[] {1, 2, 3, 4}, 0);
        // fewer HOUSES behind more, and lesser ones
        Asked fewer = Asked.of(HOUSE.repeat(6) + "way 0 2 1;way 2 1 1;part 3 0 0;part 4 0 0;part 5 0 0;", "");
        fewer.ask("crier 0 0 0 = 3", "keepAt 0 1 = 3", "keepAt 1 2 = 4", "keepAt 2 2 = 5", "crier 1 0 NONE = 2", "crier 1 0 0 = 2", "crier 1 0 1 = 1",
            "crier 1 0 2 = NONE");
        line("").ask("crier 0 1 NONE = 58", "keepAt 2 1 = 2", "crier 0 1 NONE = 58", "crier 0 1 0 = 3", "crier 0 1 1 = 0", "crier 0 1 2 = NONE");
        Asked.of(HOUSE.repeat(3) + "part 1 0 0;part 2 7 0;", "").ask("crier 1 0 NONE = 1007", "crier 1 0 0 = 2", "crier 2 0 NONE = 1007",
            "crier 2 0 0 = 1", "crier 2 0 1 = 2", "away 6 = 0", "crier 2 0 NONE = 1007", "crier 1 0 NONE = 1007", "crier 1 0 0 = 2");
    }

    /** Changes the HOUSES from one on to all orders: along a line of them, to a FIRE at its end, that order alone is the best. */
    private static void everyRound(int[] round, int from) {
        if (from == round.length) {
            StringBuilder along = new StringBuilder(HOUSE.repeat(round.length + 1));
            for (int i = 0; i < round.length; i++) {
                along.append("way ").append(i == 0 ? 0 : round[i - 1]).append(' ').append(round[i]).append(" 1;part ").append(i + 1).append(" 0 0;");
            }
            int fire = round[round.length - 1];
            Asked x = Asked.of(along.toString(), "").ask("crier " + fire + " 0 NONE = " + round.length);
            for (int i = 0; i < round.length; i++) x.ask("crier " + fire + " 0 " + i + " = " + round[i]);
        }
        for (int i = from; i < round.length; i++) {
            int[] other = round.clone();
            other[from] = round[i];
            other[i] = round[from];
            everyRound(other, from + 1);
        }
    }

    private static void awayAwakeComes() {
        Asked x = Asked.usual();
        Due.says(10, "AWAY becomes a SET: what it was.");
        x.ask("away 5 = 0", "away 7 = 5", "away 7 = 7", "told 4 = 7", "away 0 = 7", "away 0 = 0", "told 4 = 0");
        Due.says(10, "UNKNOWN.");
        x.ask("away 6 = 0", "away 8 = UNKNOWN", "away 15 = UNKNOWN", "away -1 = UNKNOWN", "away MIN = UNKNOWN", "away MAX = UNKNOWN", "told 4 = 6");
        Asked.of(HOUSE.repeat(9), "").ask("away 511 = 0", "away 512 = UNKNOWN", "told 4 = 511");
        Due.says(11, "At which minute folk of a HOUSE are awake (FIRST first); NONE: never.");
        Asked.usual().ask("awake 0 0 = 0", "awake 0 1 = 17", "awake 0 2 = 38", "awake 1 0 = NONE", "awake 1 1 = 0", "awake 1 2 = 21",
            "awake 2 0 = NONE", "awake 2 1 = NONE", "away 4 = 0", "awake 0 2 = NONE", "awake 2 2 = 0");
        Due.says(11, "UNKNOWN.");
        x.ask("awake -1 0 = UNKNOWN", "awake 0 -1 = UNKNOWN", "awake 3 0 = UNKNOWN", "awake 0 3 = UNKNOWN");
        Due.says(12, "COMES; NONE.");
        Asked.usual().ask("comes 0 0 0 = 0", "comes 0 0 1 = 27", "comes 0 0 3 = 68", "comes 2 0 3 = 38", "comes 0 1 0 = NONE",
            "comes 0 2 1 = NONE", "comes 0 2 2 = 30");
        Due.says(12, "UNKNOWN.");
        x.ask("comes -1 0 0 = UNKNOWN", "comes 3 0 0 = UNKNOWN", "comes 0 -1 0 = UNKNOWN", "comes 0 3 0 = UNKNOWN", "comes 0 0 -1 = UNKNOWN",
            "comes 0 0 4 = UNKNOWN");
    }

    private static void standsPutWaited() {
        Asked x = Asked.usual();
        Due.says(13, "STANDS; NONE.");
        x.ask("stands 0 0 = 71", "stands 1 0 = 61", "stands 2 0 = 45", "stands 0 1 = NONE", "stands 2 2 = NONE");
        Due.says(13, "UNKNOWN.");
        x.ask("stands -1 0 = UNKNOWN", "stands 3 0 = UNKNOWN", "stands 0 -1 = UNKNOWN", "stands 0 3 = UNKNOWN");
        Due.says(14, "The i-th PART that is put in; NONE: not so many, or it never STANDS.");
        x.ask("put 0 0 0 = 0", "put 0 0 1 = 1", "put 0 0 2 = 2", "put 0 0 3 = 3", "put 0 0 4 = NONE", "put 0 0 MAX = NONE", "put 0 0 -1 = NONE",
            "put 0 0 MIN = NONE", "put 0 1 0 = NONE", "put 0 1 4 = NONE");
        Due.says(14, "UNKNOWN.");
        x.ask("put -1 0 0 = UNKNOWN", "put 3 0 0 = UNKNOWN", "put 0 -1 0 = UNKNOWN", "put 0 3 9 = UNKNOWN");
        Due.says(15, "WAITED; NONE: none, or it never STANDS.");
        x.ask("waited 0 0 = 2", "waited 2 0 = 1", "waited 0 1 = NONE");
        Asked.of(HOUSE, "").ask("waited 0 0 = NONE");
        Due.says(15, "UNKNOWN.");
        x.ask("waited -1 0 = UNKNOWN", "waited 3 0 = UNKNOWN", "waited 0 -1 = UNKNOWN", "waited 0 3 = UNKNOWN");
    }

    private static void oddsNightCrier() {
        Asked x = Asked.usual();
        Due.says(16, "what = 0 MEAN, 1 WORST.");
        x.ask("odds 0 0 1 0 = 71000", "odds 0 0 1 1 = 71", "odds 0 0 2 0 = 286500", "odds 0 0 2 1 = 500");
        Due.says(16, "UNKNOWN, OUTSIDE.");
        x.ask("odds -1 0 0 0 = UNKNOWN", "odds 3 0 0 0 = UNKNOWN", "odds 0 -1 0 0 = UNKNOWN", "odds 0 3 0 0 = UNKNOWN", "odds 0 0 -1 0 = OUTSIDE",
            "odds 0 0 4 0 = OUTSIDE", "odds 0 0 0 -1 = OUTSIDE", "odds 0 0 0 2 = OUTSIDE", "odds 3 0 4 2 = UNKNOWN");
        Due.says(17, "A NIGHT: AWAY.");
        x.ask("away 2 = 0", "night 3 = 5", "told 4 = 5");
        Due.says(17, "OUTSIDE.");
        x.ask("seed 9 = 654583775", "night -1 = OUTSIDE", "night 4 = OUTSIDE", "night MIN = OUTSIDE", "night MAX = OUTSIDE", "told 4 = 5", "seed 0 = 9",
            "away 0 = 5");
        Due.says(18, "THE CRIER: i = NONE STANDS (500 in place of NONE), else the i-th HOUSE of the round; NONE: not so many.");
        x.ask("crier 0 0 NONE = 64", "crier 0 0 0 = 1", "crier 0 0 1 = 2", "crier 0 0 2 = NONE", "crier 0 0 MAX = NONE", "crier 0 0 -2 = NONE",
            "crier 0 0 MIN = NONE");
        Due.says(18, "UNKNOWN, NOT.");
        x.ask("crier -1 0 NONE = UNKNOWN", "crier 3 0 NONE = UNKNOWN", "crier 0 -1 0 = UNKNOWN", "crier 0 3 9 = UNKNOWN");
        StringBuilder eight = new StringBuilder(HOUSE.repeat(9));
        for (int h = 1; h < 9; h++) eight.append("part ").append(h).append(" 0 0;");
        Asked.of(eight.toString(), "").ask("crier 0 0 NONE = NOT", "crier 0 0 0 = NOT", "crier 0 0 99 = NOT", "crier 9 0 NONE = UNKNOWN",
            "crier 0 9 NONE = UNKNOWN", "crier 0 1 NONE = 4000");
    }
}
