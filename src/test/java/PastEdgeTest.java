/** Promises 20 to 22, 28 and 30 to 32, and how long an object is used: a test for each sentence that names an edge. */
public final class PastEdgeTest {
    private static final Check CHECK = new Check("edges of the past");
    private static final String NEW = "Promise 1: A new object";
    private static final String LOG = "Promise 20: log";
    private static final String BOTH = "Promise 21: both";
    private static final String RUN = "Promise 22: run";
    private static final String JUST = "Promise 28: just";
    private static final String COUNT = "Promise 30: count";
    private static final String IMAGE = "Promise 31: image";
    private static final String BACK = "Promise 32: back";

    private static final String WHAT_IS_LOGGED = "LOG: who was UP, by how many QUARTERS ago (1: the last one); in how many "
        + "of them both of two were UP; the longest run of these in which one was UP.";
    private static final String WHAT_IS_JUST = "JUST: in how many QUARTERS of the LOG just told COMPANIES were UP; "
        + "SINCE: how many QUARTERS ago that was last.";
    private static final String WHAT_IS_KEPT = "IMAGES 0 to 3: all but the LAWS and the TAPE, as it is; "
        + "gone back to, it is as it was (these stay).";

    private static final int[] NO_IMAGES = {-1, 4, 5, Integer.MAX_VALUE, Integer.MIN_VALUE};
    private static final String NOTHING = "wake 1=0";

    /** Three, of whom by each QUARTER those are up that are told as bits. */
    private static SleepWaves logged(int... ups) {
        SleepWaves waves = Check.told("company 1 0 0 0;company 2 0 1 0;company 4 0 2 0", NOTHING);
        for (int up : ups) {
            for (int i = 0; i < 3; i++) {
                waves.lie(i, (up >> i & 1) == 0);
            }
            waves.tick(0, 1);
        }
        return waves;
    }

    /** As many QUARTERS as told, all up but in the first of them, in which 1 sleeps. */
    private static SleepWaves longLogged(int quarters) {
        SleepWaves waves = Check.told("company 1 0 0 0;company 1 0 1 0", "sleep company=1 and now=0 and day=0;wake now=1");
        Check.tick(waves, 0, quarters);
        return waves;
    }

    // ---- log, both, run ----

    private static void oneIsTheLastOne() {
        CHECK.sentence(LOG, WHAT_IS_LOGGED);
        SleepWaves waves = logged(7, 0, 5, 2);
        int[] due = {2, 5, 0, 7};
        for (int ago = 1; ago <= 4; ago++) {
            CHECK.due("log(" + ago + ")", due[ago - 1], waves.log(ago));
        }
        waves.drum();
        CHECK.due("as it was behind the QUARTER", 2, waves.log(1));
    }

    private static void withoutItInTheLog() {
        CHECK.sentence(LOG, "Who was UP so many QUARTERS ago, as bits; NONE without it in the LOG.");
        SleepWaves waves = Check.told("company 1 0 0 0", NOTHING);
        CHECK.due("log(1) of none", -1, waves.log(1));
        CHECK.due("log(0) of none", -1, waves.log(0));
        waves.tick(0, 1);
        CHECK.due("log(1) of one", 1, waves.log(1));
        for (int ago : new int[] {2, 0, -1, 192, 193, Integer.MAX_VALUE, Integer.MIN_VALUE}) {
            CHECK.due("log(" + ago + ") of one", -1, waves.log(ago));
        }
    }

    private static void theLast192() {
        CHECK.sentence(LOG, "Who is UP comes to the LOG (the last 192 QUARTERS).");
        for (int quarters : new int[] {191, 192, 193, 384, 385}) {
            SleepWaves waves = longLogged(quarters);
            CHECK.due("in the LOG of " + quarters, Math.min(192, quarters), waves.count(10));
            CHECK.due("log(191) of " + quarters, quarters == 191 ? 1 : 3, waves.log(191));
            CHECK.due("log(192) of " + quarters, quarters == 191 ? -1 : quarters == 192 ? 1 : 3, waves.log(192));
            CHECK.due("log(193) of " + quarters, -1, waves.log(193));
            CHECK.due("log(0) of " + quarters, -1, waves.log(0));
            CHECK.due("both of " + quarters, quarters <= 192 ? quarters - 1 : 192, waves.both(0, 1));
            CHECK.due("run(0) of " + quarters, Math.min(192, quarters), waves.run(0));
            CHECK.due("run(1) of " + quarters, quarters <= 192 ? quarters - 1 : 192, waves.run(1));
            CHECK.due("just 0 of " + quarters, quarters <= 192 ? 1 : 0, waves.just(1, 0));
            CHECK.due("since of " + quarters, quarters <= 192 ? quarters : -2, waves.just(1, 1));
        }
    }

    private static void bothWereUp() {
        CHECK.sentence(BOTH, WHAT_IS_LOGGED);
        SleepWaves waves = logged(7, 3, 1, 2, 0, 5, 3);
        CHECK.due("both(0, 1)", 3, waves.both(0, 1));
        CHECK.due("both(1, 0)", 3, waves.both(1, 0));
        CHECK.due("both(0, 2)", 2, waves.both(0, 2));
        CHECK.due("both(1, 2)", 1, waves.both(1, 2));
        SleepWaves empty = logged();
        CHECK.due("in an empty LOG", 0, empty.both(0, 1));
    }

    private static void twoUnlikeCompanies() {
        CHECK.sentence(BOTH, "LOG: in how many QUARTERS both were UP; NONE without two (unlike) COMPANIES.");
        SleepWaves waves = logged(7);
        for (int i = 0; i < 3; i++) {
            CHECK.due("both(" + i + ", " + i + ")", -1, waves.both(i, i));
            for (int none : new int[] {-1, 3, 12, 32, Integer.MAX_VALUE, Integer.MIN_VALUE}) {
                CHECK.due("both(" + i + ", " + none + ")", -1, waves.both(i, none));
                CHECK.due("both(" + none + ", " + i + ")", -1, waves.both(none, i));
            }
        }
        CHECK.due("both(3, 4)", -1, waves.both(3, 4));
        CHECK.due("both(0, 2)", 1, waves.both(0, 2));
    }

    private static void theLongestRun() {
        CHECK.sentence(RUN, WHAT_IS_LOGGED);
        CHECK.due("none", 0, logged().run(0));
        CHECK.due("asleep all the time", 0, logged(0, 0).run(0));
        CHECK.due("up all the time", 3, logged(1, 1, 1).run(0));
        CHECK.due("at the begin", 3, logged(1, 1, 1, 0, 1, 1).run(0));
        CHECK.due("at the end", 3, logged(1, 1, 0, 1, 1, 1).run(0));
        CHECK.due("in the middle", 2, logged(1, 0, 1, 1, 0, 1).run(0));
        CHECK.due("of the last one", 2, logged(3, 7, 4, 0, 5).run(2));
    }

    private static void runWithoutIt() {
        CHECK.sentence(RUN, "LOG: the longest run in which one was UP; NONE without it.");
        SleepWaves waves = logged(7);
        CHECK.due("run(2)", 1, waves.run(2));
        for (int none : new int[] {-1, 3, 12, 32, Integer.MAX_VALUE, Integer.MIN_VALUE}) {
            CHECK.due("run(" + none + ")", -1, waves.run(none));
        }
    }

    // ---- just ----

    private static void justAndSince() {
        CHECK.sentence(JUST, WHAT_IS_JUST);
        SleepWaves waves = logged(7, 3, 3, 0, 5, 2);
        int[] howOften = {1, 0, 1, 2, 0, 1, 0, 1};
        int[] howLongAgo = {3, -2, 1, 4, -2, 2, -2, 6};
        for (int up = 0; up < 8; up++) {
            CHECK.due("just(" + up + ", 0)", howOften[up], waves.just(up, 0));
            CHECK.due("just(" + up + ", 1)", howLongAgo[up], waves.just(up, 1));
        }
    }

    private static void justWithoutThese() {
        CHECK.sentence(JUST, "What 0: JUST, 1: SINCE (-2: never); NONE without these (COMPANIES as bits, 0 and above).");
        SleepWaves waves = logged(7);
        for (int up : new int[] {8, 9, 15, 4096, 1 << 30, Integer.MAX_VALUE, -1, -8, Integer.MIN_VALUE}) {
            CHECK.due("just(" + up + ", 0)", -1, waves.just(up, 0));
            CHECK.due("just(" + up + ", 1)", -1, waves.just(up, 1));
        }
        for (int what : new int[] {-1, 2, Integer.MAX_VALUE, Integer.MIN_VALUE}) {
            CHECK.due("just(7, " + what + ")", -1, waves.just(7, what));
        }
        CHECK.due("just(7, 0)", 1, waves.just(7, 0));
        CHECK.due("just(0, 0)", 0, waves.just(0, 0));
        CHECK.due("just(0, 1)", -2, waves.just(0, 1));
        CHECK.due("in an empty LOG", -2, logged().just(7, 1));
        SleepWaves twelve = Check.told(Check.times(12, "company 1 0 0 0"), NOTHING);
        twelve.tick(0, 2);
        CHECK.due("just(4095, 0)", 2, twelve.just(4095, 0));
        CHECK.due("just(4096, 0)", -1, twelve.just(4096, 0));
        SleepWaves none = Check.told("watch 1", NOTHING);
        none.tick(0, 2);
        CHECK.due("none of none", 2, none.just(0, 0));
        CHECK.due("none of none", 1, none.just(0, 1));
        CHECK.due("one of none", -1, none.just(1, 0));
    }

    // ---- count ----

    private static void countOfEach() {
        CHECK.sentence(COUNT, "What 0: COMPANIES, 1: BELLS, 2: DUTIES, 3: LAWS, 4: NOW, 5: MEN UP, 6: how often it FAILED,");
        SleepWaves waves = Check.told("company 9 0 0 0;company 8 0 0 0;company 7 0 1 0;bell 1 1;bell 2 2;duty 2 9 9;watch 17",
            "sleep company=1 and now=3;sleep company=2 and now>0", NOTHING, NOTHING);
        waves.lie(0, true);
        waves.lie(0, false);
        waves.tick(0, 4);
        waves.feast(6);
        waves.seed(77);
        waves.feed(0, 0, 0, 0, 0);
        int[] due = {3, 2, 1, 3, 4, 9, 1, 3, 8, 10, 4, 77, 20, 17};
        for (int what = 0; what < due.length; what++) {
            CHECK.due("count(" + what + ")", due[what], waves.count(what));
        }
    }

    private static void countOfOthers() {
        CHECK.sentence(COUNT, "11: x, 12: bytes of the TAPE, 13: the watch. NONE for others.");
        SleepWaves waves = Check.told("company 1 0 0 0;watch 5");
        CHECK.due("count(13)", 5, waves.count(13));
        for (int what : new int[] {-1, -2, 14, 15, 100, Integer.MAX_VALUE, Integer.MIN_VALUE}) {
            CHECK.due("count(" + what + ")", -1, waves.count(what));
        }
    }

    private static void endOfTheFeastAndQuartersInTheLog() {
        CHECK.sentence(COUNT, "9: end of the FEAST, 10: QUARTERS in the LOG, 11: x, 12: bytes of the TAPE, 13: the watch.");
        SleepWaves waves = Check.told("company 1 0 0 0", NOTHING);
        CHECK.due("count(9)", 0, waves.count(9));
        CHECK.due("count(10)", 0, waves.count(10));
        waves.feast(1);
        waves.tick(0, 2);
        CHECK.due("it is over, and its end stays", 1, waves.count(9));
        CHECK.due("count(10)", 2, waves.count(10));
        waves.feast(0);
        CHECK.due("count(9)", 2, waves.count(9));
        waves.tick(0, 96);
        waves.tick(0, 93);
        CHECK.due("count(10)", 191, waves.count(10));
        waves.tick(0, 1);
        CHECK.due("count(10)", 192, waves.count(10));
        waves.tick(0, 1);
        CHECK.due("count(10)", 192, waves.count(10));
    }

    private static void neverFailed() {
        CHECK.sentence(COUNT, "7: NOW of the first time (-2: never), 8: WARM men,");
        SleepWaves waves = Check.told("company 5 0 0 0;watch 5", "sleep now=2;wake 1=1");
        CHECK.due("at first", -2, waves.count(7));
        waves.tick(0, 2);
        CHECK.due("at 2", -2, waves.count(7));
        waves.tick(0, 1);
        CHECK.due("at 3", 2, waves.count(7));
        waves.tick(0, 3);
        CHECK.due("it is kept", 2, waves.count(7));
        SleepWaves atOnce = Check.told("company 5 0 0 0;watch 6", NOTHING);
        atOnce.tick(0, 1);
        CHECK.due("in the first one", 0, atOnce.count(7));
    }

    // ---- images ----

    private static SleepWaves rich() {
        SleepWaves waves = Check.told("company 9 0 0 50;company 8 0 0 50;company 7 0 1 0;bell 1 1;bell 2 2;duty 2 9 9;watch 17",
            "sleep company=1 and now=3;sleep company=2 and now>0;wake now=5", "sleep company<2;wake long>1");
        waves.seed(5);
        waves.lie(0, true);
        waves.lie(0, false);
        waves.tick(0, 4);
        waves.lie(1, false);
        waves.tires(0, 333);
        waves.feast(2);
        return waves;
    }

    private static void changeAll(SleepWaves waves) {
        Check.barracks(waves, "company 1 1 1 1;bell 0 1;watch 1");
        waves.tick(1, 30);
        waves.seed(6);
        waves.lie(0, true);
        waves.feast(50);
    }

    private static void allIsKept() {
        CHECK.sentence(BACK, WHAT_IS_KEPT);
        for (int k = 0; k < 4; k++) {
            SleepWaves waves = rich();
            SleepWaves twin = rich();
            CHECK.due("image(" + k + ")", 4, waves.image(k));
            CHECK.same("made " + k, twin, waves);
            changeAll(waves);
            CHECK.due("back(" + k + ")", 4, waves.back(k));
            twin.tick(1, 20);
            waves.tick(1, 20);
            // the warm beds and how each goes on are as they were, too
            CHECK.same("twenty QUARTERS behind " + k, twin, waves);
        }
    }

    private static void goneBackToItIsAsItWas() {
        CHECK.sentence(BACK, WHAT_IS_KEPT);
        SleepWaves waves = rich();
        SleepWaves twin = rich();
        waves.image(2);
        changeAll(waves);
        waves.back(2);
        CHECK.same("gone back to", twin, waves);
        for (int what = 0; what < 5; what++) {
            CHECK.due("ahead what " + what, twin.ahead(1, 20, what), waves.ahead(1, 20, what));
        }
    }

    private static void theLogIsKept() {
        CHECK.sentence(BACK, WHAT_IS_KEPT);
        for (int quarters : new int[] {1, 5, 191, 192, 200}) {
            SleepWaves waves = longLogged(quarters);
            SleepWaves twin = longLogged(quarters);
            waves.image(0);
            Check.law(waves, "sleep 1=1");
            waves.tick(1, 96);
            waves.image(1);
            waves.tick(1, 96);
            waves.tick(1, 1);
            CHECK.due("another one by then", 0, waves.log(192));
            waves.back(0);
            CHECK.same("behind " + quarters, twin, waves);
        }
    }

    private static void whatIsMadeLaterIsNotSeen() {
        CHECK.sentence(IMAGE, "IMAGES 0 to 3: all but the LAWS and the TAPE, as it is;");
        SleepWaves waves = longLogged(192);
        waves.image(3);
        for (int i = 0; i < 2; i++) {
            waves.back(3);
            CHECK.due("the first one", 1, waves.log(192));
            Check.tick(waves, 0, 100);
            CHECK.due("the first one is gone", 3, waves.log(192));
        }
    }

    private static void warmBedsAreKept() {
        CHECK.sentence(BACK, WHAT_IS_KEPT);
        for (boolean isWarm : new boolean[] {true, false}) {
            SleepWaves waves = Check.told("company 9 0 0 0;company 8 0 0 0", "sleep company=1");
            if (isWarm) {
                waves.lie(0, true);
                waves.lie(0, false);
            }
            waves.image(0);
            if (isWarm) {
                Check.tick(waves, 0, 9);
            } else {
                waves.lie(0, true);
                waves.lie(0, false);
            }
            waves.back(0);
            waves.tick(0, 1);
            CHECK.due("WARM men, warm " + isWarm, isWarm ? 8 : 0, waves.count(8));
        }
    }

    private static void lawsAndTapeStay() {
        CHECK.sentence(BACK, WHAT_IS_KEPT);
        SleepWaves waves = Check.told("company 1 0 0 0", NOTHING);
        Check.feed(waves, "watch 7");
        waves.image(0);
        waves.end(0);
        Check.law(waves, "sleep 1=1");
        waves.feed(0x77617463, 0x68203132, 0x20202020, 0x20202020, 0x20202020);
        CHECK.due("back(0)", 0, waves.back(0));
        CHECK.due("LAWS", 2, waves.count(3));
        CHECK.due("bytes", 20, waves.count(12));
        waves.tick(1, 1);
        CHECK.due("by the law that came later", 1, waves.company(0, 0));
        CHECK.due("the bytes that came later", 0, waves.barracks());
        CHECK.due("watch", 12, waves.count(13));
    }

    private static void eachImageIsOnesOwn() {
        CHECK.sentence(IMAGE, "IMAGES 0 to 3: all but the LAWS and the TAPE, as it is;");
        SleepWaves waves = Check.told("company 1 0 0 0", NOTHING);
        for (int k = 0; k < 4; k++) {
            CHECK.due("image(" + k + ")", k, waves.image(k));
            waves.tick(0, 1);
        }
        for (int k : new int[] {3, 0, 2, 1, 1, 0}) {
            CHECK.due("back(" + k + ")", k, waves.back(k));
            CHECK.due("TIRED", k, waves.company(0, 1));
            CHECK.due("in the LOG", k, waves.count(10));
            waves.tick(0, 5);
        }
        CHECK.due("made again", 5, waves.image(0));
        waves.tick(0, 1);
        CHECK.due("the later one", 5, waves.back(0));
        CHECK.due("the others stay", 2, waves.back(2));
    }

    private static void imageOfAnotherK() {
        CHECK.sentence(IMAGE, "An IMAGE is made: NOW; NONE for another k (it is made also where nothing was told yet).");
        SleepWaves waves = Check.told("company 1 0 0 0", NOTHING);
        waves.tick(0, 3);
        for (int k : NO_IMAGES) {
            CHECK.due("image(" + k + ")", -1, waves.image(k));
            CHECK.due("back(" + k + ")", -1, waves.back(k));
        }
        for (int k = 0; k < 4; k++) {
            CHECK.due("none was made, " + k, -1, waves.back(k));
        }
    }

    private static void whereNothingWasToldYet() {
        CHECK.sentence(IMAGE, "An IMAGE is made: NOW; NONE for another k (it is made also where nothing was told yet).");
        SleepWaves waves = new SleepWaves();
        for (int k = 0; k < 4; k++) {
            CHECK.due("image(" + k + ")", 0, waves.image(k));
        }
        Check.barracks(waves, "company 1 0 0 0;bell 1 1;duty 0 1 1;watch 4");
        Check.law(waves, "sleep 1=1");
        waves.tick(0, 3);
        CHECK.due("back(3)", 0, waves.back(3));
        CHECK.same("nothing", new SleepWaves(), waves);
        CHECK.due("company(0, 0)", -1, waves.company(0, 0));
        CHECK.due("the LAW stays", 1, waves.count(3));
    }

    private static void neverMade() {
        CHECK.sentence(BACK, "All is as in an IMAGE: NOW; NONE, and nothing happens, if it was never made, or without it.");
        SleepWaves waves = rich();
        SleepWaves twin = rich();
        for (int k = 0; k < 4; k++) {
            CHECK.due("back(" + k + ")", -1, waves.back(k));
        }
        for (int k : NO_IMAGES) {
            CHECK.due("back(" + k + ")", -1, waves.back(k));
        }
        CHECK.same("behind those", twin, waves);
        waves.image(1);
        CHECK.due("back(0)", -1, waves.back(0));
        CHECK.due("back(2)", -1, waves.back(2));
        CHECK.due("back(1)", 4, waves.back(1));
    }

    // ---- how long ----

    private static void for512Calls() {
        CHECK.sentence(NEW, "An object is used for at most 512 calls after it has been made; what later calls answer is free.");
        SleepWaves waves = new SleepWaves();
        int calls = 0;
        for (; calls < 505; calls++) {
            CHECK.due("call " + calls, calls % 5 == 0 ? 0 : 20 * (calls % 5),
                calls % 5 == 0 ? waves.end(0) : waves.feed(0, 0, 0, 0, 0));
        }
        CHECK.due("end(0)", 0, waves.end(0));
        waves.feed(0x77617463, 0x68203720, 0x20202020, 0x20202020, 0x20202020);
        CHECK.due("barracks()", 0, waves.barracks());
        CHECK.due("image(0)", 0, waves.image(0));
        CHECK.due("back(0)", 0, waves.back(0));
        CHECK.due("law()", -3, waves.law());
        CHECK.due("the 512th", 7, waves.count(13));
    }

    public static void main(String[] args) {
        oneIsTheLastOne();
        withoutItInTheLog();
        theLast192();
        bothWereUp();
        twoUnlikeCompanies();
        theLongestRun();
        runWithoutIt();
        justAndSince();
        justWithoutThese();
        countOfEach();
        countOfOthers();
        endOfTheFeastAndQuartersInTheLog();
        neverFailed();
        allIsKept();
        goneBackToItIsAsItWas();
        theLogIsKept();
        whatIsMadeLaterIsNotSeen();
        warmBedsAreKept();
        lawsAndTapeStay();
        eachImageIsOnesOwn();
        imageOfAnotherK();
        whereNothingWasToldYet();
        neverMade();
        for512Calls();
        CHECK.end();
    }
}
