/** The edges of what the Terms tell of LOGS and IMAGES, and of promises 30 to 36. */
final class EdgesOfLogs {
    private static final String HOUSE = Asked.HOUSE;

    private EdgesOfLogs() { }

    static void run() {
        logs();
        images();
        logAndClear();
        lateAndJudge();
        seedKeepGoBack();
    }

    private static void logs() {
        // COMES at a FIRE at 0: 0, 27, 68, 68
        Due.says(Due.TERMS, "A LOG tells for PARTS at which minute (0 .. 999) they came to a FIRE.");
        Asked.usual().ask("told 6 = 0", "log 0 0 = 1", "log 3 999 = 2", "told 6 = 2", "late 0 0 3 = 931", "late 0 0 0 = 0");
        Due.says(Due.TERMS, "LATE: by how much the LOG has a PART later than it COMES;");
        Asked.usual().ask("log 1 26 = 1", "late 0 0 1 = 0", "log 1 27 = 1", "late 0 0 1 = 0", "log 1 28 = 1", "late 0 0 1 = 1", "late 1 0 1 = 11",
            "late 2 0 1 = 0", "away 2 = 0", "late 0 0 1 = 6");
        Due.says(Due.TERMS, "LATEST: the PART that is LATE most, of like ones the least; NONE: none is.");
        Asked x = Asked.usual().ask("judge 0 0 0 = NONE", "log 0 0 = 1", "log 1 27 = 2", "log 2 60 = 3", "judge 0 0 0 = NONE", "log 3 69 = 4",
            "judge 0 0 0 = 3", "log 1 28 = 4", "judge 0 0 0 = 1", "log 3 70 = 4", "judge 0 0 0 = 3", "log 0 2 = 4", "judge 0 0 0 = 0",
            "log 2 999 = 4", "judge 0 0 0 = 2");
        // one that never COMES is not LATE
        x.ask("away 2 = 0", "judge 0 0 0 = 1", "judge 0 2 0 = 2");
        Asked.of(HOUSE, "").ask("judge 0 0 0 = NONE");
        Due.says(Due.TERMS, "STOOD: STANDS by the LOG's minutes (those not told as they COME).");
        Asked y = Asked.usual().ask("judge 0 0 1 = 71", "log 2 10 = 1", "judge 0 0 1 = 69", "log 3 0 = 2", "judge 0 0 1 = 33", "log 1 0 = 3",
            "judge 0 0 1 = 13", "log 0 999 = 4", "judge 0 0 1 = 1009", "stands 0 0 = 71", "comes 0 0 0 = 0");
        y.ask("clear = 4", "away 2 = 0", "judge 0 0 1 = NONE", "log 2 5 = 1", "judge 0 0 1 = NONE", "log 3 5 = 2", "judge 0 0 1 = 28");
        Asked.of(HOUSE, "").ask("judge 0 0 1 = 0");
    }

    private static void images() {
        Due.says(Due.TERMS, "IMAGES 0, 1 keep where PARTS are kept, AWAY, FITS, THE SEED.");
        Asked x = Asked.usual().ask("keepAt 0 1 = 0", "keepAt 3 1 = 2", "away 5 = 0", "fit 0 14 = 1", "fit 3 7 = 8", "seed 2147483647 = 0", "keep 0 = 1",
            "keepAt 0 2 = 1", "keepAt 3 0 = 1", "away 2 = 5", "fit 0 0 = 15", "fit 3 0 = 15", "seed 5 = 2147483647", "keep 1 = 1",
            "cost 0 3 = 10", "store 2 = 0", "log 1 4 = 1").tell("wake 2 0;").ask("plan = 1").tell("abc");
        x.ask("goBack 0 = 1", "part 0 0 = 1", "part 3 0 = 1", "told 4 = 5", "part 0 5 = 15", "part 3 5 = 15", "seed 7 = 2147483647",
            "goBack 1 = 1", "part 0 0 = 2", "part 3 0 = 0", "told 4 = 2", "part 0 5 = 1", "part 3 5 = 8", "seed 7 = 5");
        // and nothing else
        x.ask("part 0 4 = 3", "told 5 = 2", "told 6 = 1", "told 2 = 1", "told 3 = 3", "part 1 0 = 1", "fault = NONE");
    }

    private static void logAndClear() {
        Due.says(30, "A PART of the LOG (the newer one counts): how many.");
        Asked x = Asked.usual().ask("log 2 70 = 1", "log 0 2 = 2", "log 0 3 = 2", "late 0 0 0 = 3", "log 0 0 = 2", "late 0 0 0 = 0", "log 3 0 = 3",
            "log 1 999 = 4", "told 6 = 4");
        Due.says(30, "UNKNOWN, OUTSIDE.");
        x.ask("log -1 0 = UNKNOWN", "log 4 0 = UNKNOWN", "log 1 -1 = OUTSIDE", "log 1 1000 = OUTSIDE", "log 4 1000 = UNKNOWN", "late 0 0 1 = 972",
            "told 6 = 4");
        Due.says(31, "There is no LOG: how many PARTS it had.");
        x.ask("clear = 4", "told 6 = 0", "late 0 0 1 = 0", "judge 0 0 0 = NONE", "judge 0 0 1 = 71", "clear = 0", "log 1 999 = 1", "clear = 1");
        Asked.of(HOUSE + "part 0 0 0;".repeat(12), "").ask("log 11 5 = 1", "log 0 5 = 2", "clear = 2", "told 6 = 0", "clear = 0");
    }

    private static void lateAndJudge() {
        Due.says(32, "LATE of a PART; 0: it is not, or is not of the LOG, or never COMES.");
        Asked x = Asked.usual().ask("late 0 0 0 = 0", "log 0 1 = 1", "late 0 0 0 = 1", "late 1 0 0 = 0", "late 0 0 1 = 0", "log 2 999 = 2",
            "late 0 0 2 = 931", "away 2 = 0", "late 0 0 2 = 0", "late 0 1 2 = 948", "late 0 1 0 = 0");
        Due.says(32, "UNKNOWN.");
        x.ask("late -1 0 0 = UNKNOWN", "late 3 0 0 = UNKNOWN", "late 0 -1 0 = UNKNOWN", "late 0 3 0 = UNKNOWN", "late 0 0 -1 = UNKNOWN", "late 0 0 4 = UNKNOWN");
        Due.says(33, "what = 0 LATEST, 1 STOOD; NONE.");
        Asked.usual().ask("judge 0 0 0 = NONE", "judge 0 0 1 = 71", "judge 0 1 1 = NONE", "log 1 99 = 1", "judge 0 0 0 = 1", "judge 0 0 1 = 105",
            "judge 0 1 1 = NONE", "log 0 0 = 2", "judge 0 1 1 = 105");
        Due.says(33, "UNKNOWN, OUTSIDE.");
        x.ask("judge -1 0 0 = UNKNOWN", "judge 3 0 0 = UNKNOWN", "judge 0 -1 0 = UNKNOWN", "judge 0 3 0 = UNKNOWN", "judge 0 0 -1 = OUTSIDE",
            "judge 0 0 2 = OUTSIDE", "judge 3 0 2 = UNKNOWN");
    }

    private static void seedKeepGoBack() {
        Due.says(34, "THE SEED becomes v (0 .. 2147483647): what it was.");
        Asked x = Asked.usual().ask("seed 0 = 0", "seed 2147483647 = 0", "seed 1 = 2147483647", "seed 1 = 1");
        Due.says(34, "OUTSIDE.");
        x.ask("seed -1 = OUTSIDE", "seed MIN = OUTSIDE", "seed 0 = 1");
        Due.says(35, "IMAGE i becomes what is so: 1.");
        x.ask("away 1 = 0", "keep 0 = 1", "away 2 = 1", "keep 0 = 1", "away 3 = 2", "keep 1 = 1", "away 4 = 3", "told 4 = 4", "goBack 0 = 1", "told 4 = 2");
        // a kept IMAGE stays as it is, whatever is done behind it
        x.ask("fit 0 2 = 1", "keepAt 0 1 = 0", "keep 1 = 1", "fit 0 4 = 3", "keepAt 0 2 = 1", "goBack 1 = 1", "part 0 5 = 3", "part 0 0 = 1");
        Due.says(35, "UNKNOWN.");
        x.ask("keep -1 = UNKNOWN", "keep 2 = UNKNOWN", "keep MIN = UNKNOWN", "keep MAX = UNKNOWN");
        Due.says(36, "What is so becomes IMAGE i: 1.");
        Asked y = Asked.usual().ask("keep 0 = 1", "away 7 = 0", "goBack 0 = 1", "told 4 = 0", "goBack 0 = 1", "away 6 = 0", "fit 1 1 = 2", "keepAt 1 0 = 1",
            "seed 9 = 0", "goBack 0 = 1", "told 4 = 0", "part 1 5 = 2", "part 1 0 = 1", "seed 0 = 0", "keep 1 = 1", "goBack 0 = 1", "goBack 1 = 1");
        Due.says(36, "UNKNOWN, NOT: it was not kept.");
        y.ask("goBack -1 = UNKNOWN", "goBack 2 = UNKNOWN", "goBack MIN = UNKNOWN", "goBack MAX = UNKNOWN").tell(Asked.USUAL_PARISH);
        y.ask("parish = 3", "goBack 0 = NOT", "goBack 1 = NOT", "goBack 2 = UNKNOWN", "keep 1 = 1", "goBack 0 = NOT", "goBack 1 = 1");
        Asked.usual().ask("away 3 = 0", "goBack 0 = NOT", "goBack 1 = NOT", "told 4 = 3", "keep 0 = 1", "goBack 1 = NOT", "goBack 0 = 1");
    }
}
