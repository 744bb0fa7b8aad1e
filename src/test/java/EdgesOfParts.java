/** The edges of what the Terms tell of PARTS, SLOTS, SPARES and TWO FIRES, and of promises 19 to 29. */
final class EdgesOfParts {
    private static final String HOUSE = Asked.HOUSE;
    private static final String PAIR = HOUSE + HOUSE + "way 0 1 5;";
    /** GAINS 6, 3, 8, 1; PART 1 behind 0, PART 3 behind 1 and 2. */
    private static final String[] USUAL_REACH = {"0", "6", "0", "9", "8", "14", "8", "17", "0", "6", "0", "9", "8", "14", "8", "18"};

    private EdgesOfParts() { }

    static void run() {
        kept();
        reachAndNeeded();
        ladders();
        spares();
        twoFires();
        keepAtAndKept();
        reachNeededFit();
        laddersAndLongest();
        costStoreSpares();
        two();
    }

    private static void keptDue(Asked x, int first, int t, int... moves) {
        for (int what = 0; what <= 4; what++) {
            int want = what < moves.length ? moves[what] : NineHouses.NONE;
            Due.due("kept(" + first + ", " + t + ", " + what + ") = " + want, x.call("kept", first, t, what), want);
        }
    }

    private static void kept() {
        Due.says(Due.TERMS, "KEPT: the fewest PARTS (2 at most) moved to other HOUSES so that by THE PLAN, nobody AWAY, FIRST as told, "
            + "STANDS is t or less for a FIRE at each HOUSE;");
        // at 1: 10 at a FIRE at 0, 5 at one at 1; at 0: 0 and 5
        Asked one = Asked.of(PAIR + "part 1 0 0;", "wake 0 1;");
        keptDue(one, 0, 999, 0);
        keptDue(one, 0, 10, 0);
        keptDue(one, 0, 9, 1, 0, 0);
        keptDue(one, 0, 5, 1, 0, 0);
        keptDue(one, 0, 4, -1);
        keptDue(one, 0, 0, -1);
        keptDue(one, 1, 5, 0);
        one.ask("away 3 = 0");
        keptDue(one, 0, 10, 0);
        keptDue(one, 0, 9, 1, 0, 0);
        one.ask("told 4 = 3", "part 0 0 = 1", "keepAt 0 0 = 1");
        keptDue(one, 0, 5, 0);
        // with folk of 0 AWAY it would be 13 at a FIRE at 1
        keptDue(Asked.of("house 0 9 0 0 0 0;" + HOUSE + "way 0 1 2;part 0 0 0;", "wake 1 0;").ask("away 1 = 0"), 1, 4, 0);
        // kept at 0 it is late at a FIRE at 1 alone, kept at 1 at one at 0 alone
        keptDue(Asked.of("house 6 0 0 0 0 0;" + HOUSE + HOUSE + "way 0 2 5;way 2 1 5;part 0 0 0;", "wake 2 0;wake 2 1;"), 2, 20, 1, 0, 2);
        // fewer HOUSES behind more
        Asked less = Asked.of(HOUSE.repeat(3) + "way 0 1 1;part 0 0 0;", "");
        keptDue(less, 0, 1, -1);
        less.tell(PAIR + "part 0 0 0;").ask("parish = 2");
        keptDue(less, 0, 5, 0);
        // a HOUSE that nobody wakes: all that is kept there must be moved
        keptDue(Asked.of(PAIR + "part 1 0 0;", ""), 0, 999, 1, 0, 0);
        keptDue(Asked.of(PAIR + "part 1 0 0;part 0 0 0;part 1 0 0;", ""), 0, 999, 2, 0, 0, 2, 0);
        keptDue(Asked.of(PAIR + "part 1 0 0;part 1 0 0;part 1 0 0;", ""), 0, 999, -1);
        keptDue(Asked.of(HOUSE, ""), 0, 0, 0);
        keptDue(Asked.of(HOUSE + "part 0 1 0;", ""), 0, 0, -1);
        keptDue(Asked.of(HOUSE + "part 0 0 0;", ""), 0, 0, 0);
        Due.says(Due.TERMS, "of like ones the first (PART ahead of PART, then HOUSE; of two: the lesser PART, its HOUSE, the greater PART, its HOUSE); NONE.");
        String row = HOUSE.repeat(3) + "way 0 1 5;way 1 2 5;";
        Asked far = Asked.of(row + "part 2 10 0;part 2 10 0;", "wake 0 1;wake 0 2;");
        keptDue(far, 0, 40, 0);
        keptDue(far, 0, 39, 1, 0, 0);
        keptDue(far, 0, 30, 1, 0, 0);
        keptDue(far, 0, 29, -1);
        // its own HOUSE is no other: of 1 and 2 the lesser
        keptDue(Asked.of(row + "part 0 10 0;part 0 10 0;", "wake 2 1;wake 2 0;"), 2, 30, 1, 0, 1);
        // two that must leave a HOUSE which nobody wakes: both to 1, as long as there is time, else the greater one to 2
        Asked both = Asked.of("house 0 0 0 0 0 0;house 3 0 0 0 0 0;" + HOUSE + "way 0 1 5;way 1 2 5;part 0 10 0;part 0 10 0;", "wake 2 1;");
        keptDue(both, 2, 999, 2, 0, 1, 1, 1);
        keptDue(both, 2, 33, 2, 0, 1, 1, 1);
        keptDue(both, 2, 32, 2, 0, 1, 1, 2);
        keptDue(both, 2, 30, 2, 0, 1, 1, 2);
        keptDue(both, 2, 29, -1);
    }

    private static void reachAndNeeded() {
        Due.says(Due.TERMS, "REACH of a SET of PARTS: GAINS of those together that can be in with those of it alone.");
        Asked x = Asked.usual();
        for (int set = 0; set < 16; set++) x.ask("reach " + set + " = " + USUAL_REACH[set]);
        // one that is missing keeps out all that go in behind it, and those behind these
        Asked chain = Asked.of(HOUSE + "part 0 0 1;part 0 0 2 on 0;part 0 0 4 on 1;part 0 0 8 on 2;", "");
        chain.ask("reach 15 = 15", "reach 14 = 0", "reach 13 = 1", "reach 11 = 3", "reach 7 = 7", "reach 8 = 0");
        Asked.of(HOUSE + "part 0 0 99;".repeat(12), "").ask("reach 4095 = 1188", "reach 2048 = 99", "reach 0 = 0");
        Due.says(Due.TERMS, "NEEDED: the SET of fewest PARTS that reaches r; of like ones the least; NONE.");
        x.ask("needed 0 = 0", "needed 1 = 1", "needed 6 = 1", "needed 7 = 4", "needed 8 = 4", "needed 9 = 3", "needed 10 = 5", "needed 14 = 5",
            "needed 15 = 7", "needed 17 = 7", "needed 18 = 15", "needed 19 = NONE");
        chain.ask("needed 1 = 1", "needed 2 = 3", "needed 4 = 7", "needed 8 = 15", "needed 15 = 15", "needed 16 = NONE");
        Asked.of(HOUSE + "part 0 0 1;part 0 0 1;part 0 0 2;", "").ask("needed 2 = 4", "needed 3 = 5", "needed 4 = 7");
        Asked.of(HOUSE + "part 0 0 99;".repeat(12), "").ask("needed 1188 = 4095", "needed 1189 = NONE", "needed 1089 = 2047");
        Asked.of(HOUSE + "part 0 0 0;", "").ask("needed 0 = 0", "needed 1 = NONE");
    }

    private static void ladders() {
        Due.says(Due.TERMS, "SLOTS are as many as PARTS; into SLOT k goes PART k, and others as told (FITS: a SET, always with k).");
        Asked x = Asked.usual().ask("part 0 5 = 1", "part 3 5 = 8", "fit 4 0 = UNKNOWN", "ladders 15 4 = 1", "ladders 15 5 = OUTSIDE",
            "fit 3 0 = 8", "part 3 5 = 8", "fit 3 1 = 8", "part 3 5 = 9", "fit 3 15 = 9", "part 3 5 = 15", "fit 3 8 = 15", "part 3 5 = 8");
        Due.says(Due.TERMS, "LADDERS of a SET of PARTS: in how many ways each of SLOTS 0 to m less 1 can have a PART of the SET that FITS, no PART twice;");
        x.ask("fit 0 2 = 1", "ladders 15 0 = 1", "ladders 0 0 = 1", "ladders 15 1 = 2", "ladders 15 2 = 1", "ladders 14 1 = 1", "ladders 14 2 = 0",
            "ladders 0 1 = 0", "fit 1 1 = 2", "ladders 15 2 = 2", "ladders 15 4 = 2", "ladders 3 2 = 2", "ladders 3 3 = 0", "ladders 7 4 = 0");
        Asked twelve = Asked.of(HOUSE + "part 0 0 0;".repeat(12), "");
        twelve.ask("ladders 4095 12 = 1", "ladders 4094 1 = 0", "ladders 1 1 = 1");
        for (int k = 0; k < 12; k++) twelve.call("fit", k, 4095);
        twelve.ask("ladders 4095 12 = 479001600", "ladders 4095 11 = 479001600", "ladders 4095 1 = 12", "ladders 2047 11 = 39916800",
            "ladders 2047 12 = 0", "ladders 2048 1 = 1");
        Due.says(Due.TERMS, "LONGEST: the greatest m for which there is a way.");
        x.ask("longest 15 = 4", "longest 0 = 0", "longest 12 = 0", "longest 3 = 2", "longest 7 = 3", "longest 11 = 2", "longest 2 = 1");
        twelve.ask("longest 4095 = 12", "longest 2047 = 11", "longest 2048 = 1", "longest 0 = 0");
    }

    private static void sparesDue(Asked x, int fire, int c, int set, int minute) {
        Due.due("spares(" + fire + ", 0, " + c + ", 0)", x.call("spares", fire, 0, c, 0), set);
        Due.due("spares(" + fire + ", 0, " + c + ", 1)", x.call("spares", fire, 0, c, 1), minute);
    }

    private static void spares() {
        Due.says(Due.TERMS, "SPARES cost coins for each PART (0 .. 99; 10 at first);");
        // one PART at 1 comes at 10, its spare at 0
        Asked one = Asked.of(PAIR + "part 1 1 0;", "wake 0 1;").ask("part 0 4 = 10");
        sparesDue(one, 0, 9, 0, 11);
        sparesDue(one, 0, 10, 1, 1);
        one.ask("cost 0 99 = 10");
        sparesDue(one, 0, 98, 0, 11);
        sparesDue(one, 0, 99, 1, 1);
        one.ask("cost 0 0 = 99");
        sparesDue(one, 0, 0, 1, 1);
        Due.says(Due.TERMS, "a spare is kept at a HOUSE of the parish (THE STORE; HOUSE 0 at first), COMES as PARTS that are kept there, "
            + "and is put in in place of its PART, if it COMES earlier (or that never).");
        one.ask("told 5 = 0", "store 1 = 0");
        sparesDue(one, 0, 999, 0, 11);
        one.ask("keepAt 0 0 = 1", "store 0 = 1");
        sparesDue(one, 0, 999, 0, 1);
        Asked never = Asked.of(PAIR + "part 1 1 0;", "");
        sparesDue(never, 0, 9, 0, 500);
        sparesDue(never, 0, 10, 1, 1);
        never.ask("store 1 = 0");
        sparesDue(never, 0, 999, 0, 500);
        // from a STORE whose folk are AWAY spares are taken along
        String row = HOUSE + "house 0 2 0 0 0 0;" + HOUSE + "way 0 1 5;way 0 2 4;part 2 1 0;";
        Asked taken = Asked.of(row, "wake 0 1;wake 2 0;").ask("store 1 = 0", "comes 0 0 0 = NONE");
        sparesDue(taken, 0, 10, 1, 11);
        taken.ask("away 2 = 0");
        sparesDue(taken, 0, 10, 1, 13);
        // later, earlier, at once
        Asked later = Asked.of(HOUSE.repeat(3) + "way 0 1 5;way 0 2 4;part 1 1 0;", "wake 0 1;wake 1 2;").ask("store 2 = 0");
        sparesDue(later, 0, 10, 0, 11);
        Asked.of(HOUSE.repeat(3) + "way 0 1 5;way 0 2 4;part 1 1 0;", "wake 0 2;wake 2 1;").ask("store 2 = 0", "spares 0 0 10 0 = 1", "spares 0 0 10 1 = 9");
        Asked like = Asked.of(HOUSE.repeat(3) + "way 0 1 5;way 1 2 5;part 1 1 0;", "wake 0 1;wake 1 2;").ask("store 2 = 0", "cost 0 0 = 10",
            "comes 2 0 0 = 10", "awake 0 2 = 10");
        sparesDue(like, 2, 0, 0, 11);
        // with no way the spare comes at 500, so that it would stand at 501: later than 500 in place of NONE
        Asked apart = Asked.of(HOUSE + HOUSE + "part 1 1 0;", "");
        sparesDue(apart, 1, 999, 0, 500);
        // one that never COMES is never put in, though 500 in place of NONE would be less
        Asked slow = Asked.of(HOUSE.repeat(3) + "part 1 7 0;", "wake 0 1;").ask("store 2 = 0", "cost 0 0 = 10");
        sparesDue(slow, 0, 999, 0, 1007);
        Due.says(Due.TERMS, "THE BEST SPARES for c coins: the SET with which STANDS (as AWAY is now) is least (500 in place of NONE); "
            + "of like ones the cheapest, then the least.");
        Asked two = Asked.of(PAIR + "part 1 9 0;part 1 9 0;", "wake 0 1;");
        sparesDue(two, 0, 9, 0, 28);
        sparesDue(two, 0, 19, 1, 19);
        sparesDue(two, 0, 20, 3, 18);
        two.ask("cost 1 9 = 10");
        sparesDue(two, 0, 18, 2, 19);
        sparesDue(two, 0, 19, 3, 18);
        Asked free = Asked.of(PAIR + "part 1 0 0;part 1 5 0;part 0 9 0;", "wake 0 1;").ask("cost 0 0 = 10", "cost 1 0 = 10", "cost 2 0 = 10");
        sparesDue(free, 0, 0, 2, 14);
        sparesDue(free, 0, 999, 2, 14);
        free.ask("away 2 = 0");
        sparesDue(free, 0, 0, 2, 14);
        Asked.of(PAIR + "part 0 0 0;part 1 5 0;", "").ask("spares 0 0 9 0 = 0", "spares 0 0 9 1 = 500", "spares 0 0 10 0 = 2", "spares 0 0 10 1 = 5",
            "spares 1 1 999 0 = 0", "spares 1 1 999 1 = 500");
        Asked all = Asked.of(PAIR + "part 1 1 0;".repeat(12), "");
        sparesDue(all, 0, 119, 0, 500);
        sparesDue(all, 0, 120, 4095, 12);
    }

    private static void twoFires() {
        Asked x = Asked.usual();
        Due.says(Due.TERMS, "TWO FIRES f and g: of all SETS of PARTS that go to f, the others to g, those for which both REACH r:");
        x.ask("two 0 2 0 0 = 40", "two 0 2 0 8 = 40", "two 2 0 0 8 = 40", "two 0 2 0 9 = NONE", "two 2 0 0 9 = NONE");
        Asked halves = Asked.of(HOUSE + "part 0 1 5;part 0 2 5;part 0 4 9;", "");
        halves.ask("two 0 0 0 0 = 4", "two 0 0 0 9 = 4", "two 0 0 0 10 = NONE");
        Due.says(Due.TERMS, "the least minute at which at f all of the SET that can be in are in and at g those of the others (each by its own COMING there);");
        Asked pair = Asked.of(PAIR + "part 0 2 1;part 1 3 1;", "wake 0 1;");
        pair.ask("two 0 1 0 1 = 8", "two 1 0 0 1 = 8", "two 0 0 0 1 = 13", "two 1 1 0 1 = 8", "two 0 1 0 0 = 8", "two 0 0 0 0 = 13");
        // what cannot be in is not waited for
        Asked out = Asked.of(PAIR + "part 0 1 1;part 0 1 1;part 1 1 1 on 0;", "wake 0 1;");
        out.ask("two 0 0 0 0 = 1", "two 0 0 0 1 = 1", "two 0 0 0 2 = NONE", "two 1 1 0 1 = 6");
        Due.says(Due.TERMS, "500 in place of a PART that never COMES;");
        Asked.of(PAIR + "part 0 2 1;part 1 3 1;", "").ask("two 0 1 0 1 = 503", "two 1 0 0 1 = 503", "two 0 1 1 1 = 502", "away 3 = 0", "two 0 1 0 1 = 503");
        Asked.of(PAIR + "part 0 2 1;part 1 3 1 on 0;", "").ask("two 0 1 0 0 = 2");
        Asked.of(PAIR + "part 1 0 1;", "").ask("two 0 1 0 0 = 500");
        Due.says(Due.TERMS, "NONE: no SET does.");
        x.ask("two 0 2 0 10 = NONE", "two 0 0 0 9999 = NONE");
        Asked.of(HOUSE, "").ask("two 0 0 0 0 = 0", "two 0 0 0 1 = NONE");
        Asked.of(HOUSE + "part 0 1 5;", "").ask("two 0 0 0 0 = 1", "two 0 0 0 1 = NONE");
        Due.says(Due.TERMS, "What is not of a SET is not put in there.");
        Asked.of(HOUSE + "part 0 10 5;part 0 20 5;part 0 30 5;", "").ask("two 0 0 0 0 = 30", "two 0 0 0 5 = 30", "two 0 0 0 6 = NONE");
    }

    private static void keepAtAndKept() {
        Due.says(19, "A PART is kept in a HOUSE: where it was.");
        Asked x = Asked.usual().ask("keepAt 0 2 = 0", "part 0 0 = 2", "keepAt 0 2 = 2", "keepAt 0 1 = 2", "keepAt 3 0 = 2", "house 0 6 = 8",
            "house 1 6 = 3", "house 2 6 = 4", "comes 0 0 0 = 27", "comes 0 0 3 = 0");
        Due.says(19, "UNKNOWN.");
        x.ask("keepAt -1 0 = UNKNOWN", "keepAt 4 0 = UNKNOWN", "keepAt 0 -1 = UNKNOWN", "keepAt 0 3 = UNKNOWN", "part 0 0 = 1");
        Due.says(20, "KEPT for t (0 .. 999): what = 0 how many are moved, 1, 2 the first PART and its HOUSE, 3, 4 the second; NONE: none, or not so many.");
        Asked y = Asked.usual();
        keptDue(y, 0, 999, 0);
        keptDue(y, 0, 71, 0);
        keptDue(y, 0, 70, 1, 2, 0);
        keptDue(y, 0, 43, 2, 2, 0, 3, 0);
        keptDue(y, 0, 42, -1);
        keptDue(y, 2, 42, 2, 0, 2, 1, 2);
        keptDue(y, 0, 0, -1);
        Due.says(20, "UNKNOWN, OUTSIDE.");
        y.ask("kept -1 0 0 = UNKNOWN", "kept 3 0 0 = UNKNOWN", "kept 0 -1 0 = OUTSIDE", "kept 0 1000 0 = OUTSIDE", "kept 0 0 -1 = OUTSIDE",
            "kept 0 0 5 = OUTSIDE", "kept 3 1000 5 = UNKNOWN");
    }

    private static void reachNeededFit() {
        Asked x = Asked.usual();
        Due.says(21, "REACH.");
        x.ask("reach 0 = 0", "reach 15 = 18", "reach 10 = 0");
        Due.says(21, "UNKNOWN.");
        x.ask("reach 16 = UNKNOWN", "reach 31 = UNKNOWN", "reach -1 = UNKNOWN", "reach MIN = UNKNOWN", "reach MAX = UNKNOWN");
        Due.says(22, "NEEDED for r (0 .. 9999); NONE.");
        x.ask("needed 0 = 0", "needed 18 = 15", "needed 19 = NONE", "needed 9999 = NONE");
        Due.says(22, "OUTSIDE.");
        x.ask("needed -1 = OUTSIDE", "needed 10000 = OUTSIDE", "needed MIN = OUTSIDE", "needed MAX = OUTSIDE");
        Due.says(23, "FITS of a SLOT become a SET and itself: what they were.");
        x.ask("fit 2 9 = 4", "part 2 5 = 13", "fit 2 0 = 13", "part 2 5 = 4", "fit 2 15 = 4", "fit 2 4 = 15", "part 2 5 = 4", "part 1 5 = 2");
        Due.says(23, "UNKNOWN.");
        x.ask("fit 2 3 = 4", "fit -1 0 = UNKNOWN", "fit 4 0 = UNKNOWN", "fit 2 16 = UNKNOWN", "fit 2 -1 = UNKNOWN", "fit 2 MIN = UNKNOWN", "part 2 5 = 7");
    }

    private static void laddersAndLongest() {
        Asked x = Asked.usual();
        Due.says(24, "LADDERS of m SLOTS (0 .. how many there are).");
        x.ask("ladders 15 0 = 1", "ladders 15 4 = 1", "ladders 1 1 = 1", "ladders 1 2 = 0");
        Due.says(24, "UNKNOWN, OUTSIDE.");
        x.ask("ladders 16 0 = UNKNOWN", "ladders -1 0 = UNKNOWN", "ladders 15 -1 = OUTSIDE", "ladders 15 5 = OUTSIDE", "ladders 16 5 = UNKNOWN");
        Due.says(25, "LONGEST.");
        x.ask("longest 0 = 0", "longest 7 = 3", "longest 15 = 4", "longest 14 = 0");
        Due.says(25, "UNKNOWN.");
        x.ask("longest 16 = UNKNOWN", "longest -1 = UNKNOWN", "longest MIN = UNKNOWN", "longest MAX = UNKNOWN");
    }

    private static void costStoreSpares() {
        Asked x = Asked.usual();
        Due.says(26, "A spare costs c: what it did.");
        x.ask("cost 3 0 = 10", "cost 3 99 = 0", "cost 3 5 = 99", "part 3 4 = 5", "part 0 4 = 10");
        Due.says(26, "UNKNOWN, OUTSIDE.");
        x.ask("cost -1 0 = UNKNOWN", "cost 4 0 = UNKNOWN", "cost 3 -1 = OUTSIDE", "cost 3 100 = OUTSIDE", "cost 4 100 = UNKNOWN", "part 3 4 = 5",
            "cost 3 10 = 5");
        Due.says(27, "THE STORE is a HOUSE: which it was.");
        x.ask("store 2 = 0", "store 2 = 2", "store 1 = 2", "told 5 = 1");
        Due.says(27, "UNKNOWN.");
        x.ask("store -1 = UNKNOWN", "store 3 = UNKNOWN", "store MIN = UNKNOWN", "store MAX = UNKNOWN", "told 5 = 1", "store 0 = 1");
        Due.says(28, "THE BEST SPARES for c coins (0 .. 999): what = 0 the SET, 1 STANDS (500 in place of NONE).");
        sparesDue(x, 0, 0, 0, 71);
        sparesDue(x, 0, 10, 4, 69);
        sparesDue(x, 0, 20, 12, 33);
        sparesDue(x, 0, 999, 14, 12);
        x.ask("away 2 = 0");
        sparesDue(x, 0, 19, 0, 500);
        sparesDue(x, 0, 20, 12, 28);
        Due.says(28, "UNKNOWN, OUTSIDE.");
        x.ask("spares -1 0 0 0 = UNKNOWN", "spares 3 0 0 0 = UNKNOWN", "spares 0 -1 0 0 = UNKNOWN", "spares 0 3 0 0 = UNKNOWN", "spares 0 0 -1 0 = OUTSIDE",
            "spares 0 0 1000 0 = OUTSIDE", "spares 0 0 0 -1 = OUTSIDE", "spares 0 0 0 2 = OUTSIDE", "spares 3 0 1000 2 = UNKNOWN");
    }

    private static void two() {
        Asked x = Asked.usual();
        Due.says(29, "TWO FIRES: the least minute; NONE.");
        x.ask("two 0 2 0 0 = 40", "two 0 0 0 8 = 70", "two 0 0 0 9 = NONE", "two 0 0 0 9999 = NONE");
        Due.says(29, "UNKNOWN, OUTSIDE (r 0 .. 9999).");
        x.ask("two -1 0 0 0 = UNKNOWN", "two 3 0 0 0 = UNKNOWN", "two 0 -1 0 0 = UNKNOWN", "two 0 3 0 0 = UNKNOWN", "two 0 0 -1 0 = UNKNOWN",
            "two 0 0 3 0 = UNKNOWN", "two 0 0 0 -1 = OUTSIDE", "two 0 0 0 10000 = OUTSIDE", "two 3 0 0 10000 = UNKNOWN");
    }
}
