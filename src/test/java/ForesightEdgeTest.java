/** Promises 12 to 14, 19 and 24 to 27: a test for each sentence that names an edge. */
public final class ForesightEdgeTest {
    private static final Check CHECK = new Check("edges of foresight");
    private static final String AHEAD = "Promise 12: ahead";
    private static final String STRUCK = "Promise 13: struck";
    private static final String TURNED = "Promise 14: turned";
    private static final String HARM = "Promise 19: harm";
    private static final String FAIR = "Promise 24: fair";
    private static final String BEST_LAW = "Promise 25: bestLaw";
    private static final String SWAP = "Promise 26: swap";
    private static final String STRIKE = "Promise 27: strike";

    private static final String WHAT_IS_TURNED = "FEASTS that begin b QUARTERS from now (0 to 47, in place of one that is "
        + "on then) and last l (1 to 16), so that behind n QUARTERS (1 to 96) just told COMPANIES are ASLEEP: "
        + "the one with the least l, of these the least b.";
    private static final String WHAT_HARMS = "the BELL without which it FAILS least often in n QUARTERS, of several the "
        + "least, if that is less often than with all; how often then.";
    private static final String WHAT_IS_FAIR = "the COMPANY that is ASLEEP behind most of these, that behind fewest "
        + "(of several the least each), how many more the one.";
    private static final String WHICH_IS_BEST = "by which it FAILS least often, of these that with least TIRED together "
        + "behind them, of these the first.";
    private static final String WHAT_IS_SWAPPED = "of all two COMPANIES (the lesser first) with unlike BEDS that with "
        + "which, if they change these now, TIRED together behind n QUARTERS is least, of several the first "
        + "(by the lesser, then the greater), if it is less than without.";
    private static final String WHAT_IS_STRUCK = "the DRUM ahead of the QUARTER (0 to n less 1) by which it FAILS least "
        + "often in n, of several the first, if less often than without.";

    private static final int[] FAR_OFF = {-1, Integer.MAX_VALUE, Integer.MIN_VALUE};
    private static final String NOTHING = "wake 1=0";

    /** One company of ten, which must be up, and its law. */
    private static SleepWaves watched(String law) {
        return Check.told("company 10 0 0 0;watch 10", law);
    }

    // ---- nothing changes ----

    private static SleepWaves busy() {
        SleepWaves waves = Check.told("company 10 0 0 60;company 20 0 1 60;company 30 0 1 60;company 5 1 0 0;bell 2 1;bell 5 2;watch 25",
            "sleep tired>2;wake tired=0", "sleep bell=2;wake long>4");
        waves.tick(0, 5);
        waves.lie(0, true);
        waves.feast(2);
        waves.image(0);
        return waves;
    }

    private static void askAll(SleepWaves waves) {
        for (int what = 0; what < 5; what++) {
            waves.ahead(0, 50, what);
            waves.struck(0, 3, 50, what);
        }
        for (int what = 0; what < 3; what++) {
            waves.turned(0, 1, 50, what);
            waves.fair(0, 50, what);
        }
        for (int what = 0; what < 2; what++) {
            waves.crest(0, 0, 40, 40, what);
            waves.harm(1, 50, what);
            waves.swap(0, 50, what);
            waves.strike(0, 50, what);
        }
        waves.mutiny(0, 0, 3, 50);
        waves.dream(0, 0, 50);
        waves.told(0, 0, 1, 50);
        waves.bestLaw(50);
    }

    private static void nothingChanges() {
        CHECK.sentence(AHEAD, "(Nothing changes by what follows; draws as they would come from x on; QUARTERS go on behind 9999 there.)");
        SleepWaves waves = busy();
        SleepWaves twin = busy();
        askAll(waves);
        CHECK.same("behind all questions", twin, waves);
        CHECK.due("LAWS", 2, waves.count(3));
        CHECK.due("the TAPE", 0, waves.count(12));
        waves.tick(0, 20);
        twin.tick(0, 20);
        CHECK.same("twenty later", twin, waves);
        askAll(waves);
        waves.back(0);
        twin.back(0);
        CHECK.same("gone back to", twin, waves);
    }

    private static void itComesAsItWasForeseen() {
        CHECK.sentence(AHEAD, "(Nothing changes by what follows; draws as they would come from x on; QUARTERS go on behind 9999 there.)");
        for (int seed = 0; seed < 20; seed++) {
            SleepWaves waves = busy();
            waves.seed(seed * 99991);
            int fails = waves.count(6);
            int warm = waves.count(8);
            int[] foreseen = new int[5];
            for (int what = 0; what < 5; what++) {
                foreseen[what] = waves.ahead(0, 40, what);
            }
            int least = 65;
            int first = -2;
            for (int k = 0; k < 40; k++) {
                int before = waves.count(6);
                waves.tick(0, 1);
                least = Math.min(least, waves.count(5));
                first = first == -2 && waves.count(6) > before ? k : first;
            }
            int tired = 0;
            for (int i = 0; i < 4; i++) {
                tired += waves.company(i, 1);
            }
            int[] came = {least, waves.count(6) - fails, first, tired, waves.count(8) - warm};
            for (int what = 0; what < 5; what++) {
                CHECK.due("what " + what + " of seed " + seed, came[what], foreseen[what]);
            }
        }
    }

    private static void quartersGoOnBehind9999() {
        CHECK.sentence(AHEAD, "(Nothing changes by what follows; draws as they would come from x on; QUARTERS go on behind 9999 there.)");
        SleepWaves waves = Check.told("company 10 0 0 0;company 3 0 1 0;watch 13", NOTHING, "sleep day=106 and now=0",
            "sleep now=16 and company=0");
        Check.tick(waves, 0, 9999);
        CHECK.due("NOW", 9999, waves.count(4));
        CHECK.due("TIRED", 999 + 999, waves.ahead(0, 192, 3));
        CHECK.due("DAY 106 comes", 177, waves.ahead(1, 192, 2));
        CHECK.due("it FAILS from there on", 15, waves.ahead(1, 192, 1));
        CHECK.due("MEN UP", 0, waves.ahead(1, 192, 0));
        CHECK.due("not yet", 0, waves.ahead(1, 177, 1));
        CHECK.due("struck, FAILS", 14, waves.struck(1, 191, 192, 1));
        CHECK.due("strike", 2, waves.strike(2, 3, 0));
        CHECK.due("strike, FAILS", 1, waves.strike(2, 3, 1));
        CHECK.due("fair, how many more", 1, waves.fair(2, 2, 2));
        CHECK.due("mutiny of two that are up", 13, waves.mutiny(2, 1, 0, 1));
        CHECK.due("mutiny of one alone", 3, waves.mutiny(2, 1, 1, 9));
        CHECK.due("bestLaw", 0, waves.bestLaw(2));
        CHECK.due("no more QUARTERS here", -1, waves.tick(0, 1));
    }

    // ---- promise 12 ----

    private static void aheadNoughtTo192() {
        CHECK.sentence(AHEAD, "AHEAD of n QUARTERS (0 to 192) by a LAW:");
        SleepWaves waves = watched("sleep 1=1");
        CHECK.due("n 0", 0, waves.ahead(0, 0, 1));
        CHECK.due("n 1", 1, waves.ahead(0, 1, 1));
        CHECK.due("n 191", 191, waves.ahead(0, 191, 1));
        CHECK.due("n 192", 192, waves.ahead(0, 192, 1));
        for (int n : new int[] {-1, 193, 200, Integer.MAX_VALUE, Integer.MIN_VALUE}) {
            CHECK.due("n " + n, -1, waves.ahead(0, n, 1));
        }
    }

    private static void aheadWithoutThese() {
        CHECK.sentence(AHEAD, "AHEAD what 0: the least MEN UP, 1: how often it FAILS, 2: the first time (-2: never), 3: TIRED, 4: WARM men. NONE without these.");
        SleepWaves waves = watched("sleep 1=1");
        for (int law : new int[] {-1, 1, 5, 6, Integer.MAX_VALUE, Integer.MIN_VALUE}) {
            CHECK.due("law " + law, -1, waves.ahead(law, 1, 0));
        }
        int[] due = {0, 1, 0, 0, 0};
        for (int what = 0; what < 5; what++) {
            CHECK.due("what " + what, due[what], waves.ahead(0, 1, what));
        }
        for (int what : new int[] {-1, 5, Integer.MAX_VALUE, Integer.MIN_VALUE}) {
            CHECK.due("what " + what, -1, waves.ahead(0, 1, what));
            CHECK.due("what " + what + ", n 0", -1, waves.ahead(0, 0, what));
        }
        CHECK.due("no LAWS", -1, Check.told("company 1 0 0 0").ahead(0, 0, 0));
    }

    private static void allMenIfNIsNought() {
        CHECK.sentence(AHEAD, "the least MEN UP of their (5) (all men, if n is 0), how often it FAILS,");
        SleepWaves waves = Check.told("company 10 0 0 0;company 20 0 1 0;watch 30", NOTHING, "sleep company=0 and now=1;wake 1=1");
        CHECK.due("all up", 30, waves.ahead(0, 0, 0));
        waves.lie(1, true);
        CHECK.due("MEN UP", 10, waves.count(5));
        CHECK.due("n 0, one asleep", 30, waves.ahead(0, 0, 0));
        CHECK.due("n 1, one asleep", 10, waves.ahead(0, 1, 0));
        waves.lie(0, true);
        CHECK.due("n 0, none up", 30, waves.ahead(0, 0, 0));
        CHECK.due("n 0, FAILS", 0, waves.ahead(0, 0, 1));
        CHECK.due("n 0, the first time", -2, waves.ahead(0, 0, 2));
        CHECK.due("n 0, WARM men", 0, waves.ahead(0, 0, 4));
        CHECK.due("of their (5) only", 30, waves.ahead(1, 1, 0));
        CHECK.due("without COMPANIES", 0, Check.told("watch 1", NOTHING).ahead(0, 0, 0));
    }

    private static void theLeastOfThem() {
        CHECK.sentence(AHEAD, "the least MEN UP of their (5) (all men, if n is 0), how often it FAILS,");
        SleepWaves waves = Check.told("company 10 0 0 0;company 20 0 1 0", "sleep company=0 and now=1;sleep company=1 and now=3;wake long>0");
        int[] least = {30, 30, 20, 20, 10, 10, 10};
        for (int n = 0; n < least.length; n++) {
            CHECK.due("n " + n, least[n], waves.ahead(0, n, 0));
        }
    }

    private static void theFirstTimeFromNow() {
        CHECK.sentence(AHEAD, "the first time (QUARTERS from now: 0 the first one),");
        SleepWaves waves = watched("sleep now=3");
        CHECK.due("never", -2, waves.ahead(0, 3, 2));
        for (int now = 0; now < 4; now++) {
            CHECK.due("at " + now, 3 - now, waves.ahead(0, 10, 2));
            waves.tick(0, 1);
        }
        CHECK.due("it failed by now", 1, waves.count(6));
        CHECK.due("and does in the first one", 0, waves.ahead(0, 1, 2));
        waves.drum();
        CHECK.due("its own first time does not count", -2, waves.ahead(0, 90, 2));
        CHECK.due("nor how often", 0, waves.ahead(0, 90, 1));
    }

    private static void tiredOfAllTogetherThen() {
        CHECK.sentence(AHEAD, "TIRED of all together then, WARM men in these.");
        SleepWaves waves = Check.told("company 1 0 0 0;company 1 0 1 0", "sleep company=0");
        waves.tires(0, 7);
        waves.tires(1, 998);
        int[] tired = {1005, 1004, 1002, 1000, 999, 999};
        for (int n = 0; n < tired.length; n++) {
            CHECK.due("n " + n, tired[n], waves.ahead(0, n, 3));
        }
    }

    private static void warmMenInThese() {
        CHECK.sentence(AHEAD, "TIRED of all together then, WARM men in these.");
        SleepWaves waves = Check.told("company 10 0 0 0;company 20 0 0 0", "sleep company=1 and now%2=1;wake 1=1");
        waves.lie(0, true);
        waves.lie(0, false);
        int[] warm = {0, 0, 20, 20, 40, 40, 40, 40};
        for (int n = 0; n < warm.length; n++) {
            CHECK.due("n " + n, warm[n], waves.ahead(0, n, 4));
        }
        waves.tick(0, 2);
        CHECK.due("those that were are not in these", 20, waves.ahead(0, 9, 4));
        CHECK.due("n 0", 0, waves.ahead(0, 0, 4));
    }

    // ---- promise 13 ----

    private static void struckAtNoughtToNLessOne() {
        CHECK.sentence(STRUCK, "STRUCK (at 0 to n less 1), as ahead; NONE without these.");
        SleepWaves waves = watched(NOTHING);
        waves.lie(0, true);
        int[] ns = {1, 2, 5, 191, 192};
        for (int n : ns) {
            CHECK.due("at 0 of " + n, 0, waves.struck(0, 0, n, 1));
            CHECK.due("at the last of " + n, n - 1, waves.struck(0, n - 1, n, 1));
            CHECK.due("behind the last of " + n, -1, waves.struck(0, n, n, 1));
            CHECK.due("at -1 of " + n, -1, waves.struck(0, -1, n, 1));
        }
        CHECK.due("n 0", -1, waves.struck(0, 0, 0, 1));
        CHECK.due("n 193", -1, waves.struck(0, 0, 193, 1));
        for (int far : FAR_OFF) {
            CHECK.due("at " + far, -1, waves.struck(0, far, 5, 1));
            CHECK.due("n " + far, -1, waves.struck(0, 0, far, 1));
            CHECK.due("law " + far, -1, waves.struck(far, 0, 5, 1));
            CHECK.due("what " + far, -1, waves.struck(0, 0, 5, far));
        }
        CHECK.due("law 1", -1, waves.struck(1, 0, 5, 1));
        CHECK.due("what 5", -1, waves.struck(0, 0, 5, 5));
    }

    private static void theDrumAheadOfTheQuarter() {
        CHECK.sentence(STRUCK, "STRUCK: the same with the DRUM ahead of the QUARTER told (0: the first one).");
        SleepWaves waves = Check.told("company 10 0 0 0;company 20 0 0 0;watch 30", "sleep company=1 and now=2");
        waves.lie(0, true);
        // what 0 to 4 by the QUARTER that is struck
        int[][] due = {{10, 2, 2, 4, 20}, {10, 3, 0, 3, 20}, {10, 4, 0, 2, 20}, {20, 3, 0, 5, 0}};
        for (int at = 0; at < 4; at++) {
            for (int what = 0; what < 5; what++) {
                CHECK.due("what " + what + ", struck at " + at, due[at][what], waves.struck(0, at, 4, what));
            }
        }
        CHECK.due("as it was", 1, waves.company(0, 0));
    }

    private static void struckNever() {
        CHECK.sentence(STRUCK, "STRUCK: the same with the DRUM ahead of the QUARTER told (0: the first one).");
        SleepWaves waves = watched(NOTHING);
        waves.lie(0, true);
        CHECK.due("the first time", -2, waves.struck(0, 0, 9, 2));
        CHECK.due("the first time", 0, waves.struck(0, 1, 9, 2));
        CHECK.due("least", 10, waves.struck(0, 0, 9, 0));
    }

    // ---- promise 14 ----

    private static void turned(SleepWaves waves, int asleep, int n, int b, int l, int fails) {
        String call = "turned(0, " + asleep + ", " + n + ", ";
        CHECK.due(call + "0)", b, waves.turned(0, asleep, n, 0));
        CHECK.due(call + "1)", l, waves.turned(0, asleep, n, 1));
        CHECK.due(call + "2)", fails, waves.turned(0, asleep, n, 2));
    }

    private static void feastsBeginUpTo47() {
        CHECK.sentence(TURNED, WHAT_IS_TURNED);
        turned(watched("sleep now=0"), 0, 60, 0, 1, 0);
        turned(watched("sleep now=46"), 0, 60, 46, 1, 0);
        turned(watched("sleep now=47"), 0, 60, 47, 1, 0);
        // a FEAST of one QUARTER would have to begin at 48
        turned(watched("sleep now=48"), 0, 60, 47, 2, 0);
        turned(watched("sleep now=62"), 0, 70, 47, 16, 0);
        turned(watched("sleep now=63"), 0, 70, -2, -2, -2);
    }

    private static void feastsLastUpTo16() {
        CHECK.sentence(TURNED, WHAT_IS_TURNED);
        // whoever sits up for so many QUARTERS is too tired to lie down at all
        for (int l = 1; l <= 16; l++) {
            turned(watched("sleep tired<" + l + " and now<64"), 0, 70, 0, l, 0);
        }
        turned(watched("sleep tired<17 and now<80"), 0, 90, -2, -2, -2);
        turned(watched("sleep 1=1"), 0, 48, 47, 1, 47);
    }

    private static void behindNQuarters() {
        CHECK.sentence(TURNED, WHAT_IS_TURNED);
        SleepWaves waves = watched("sleep now=0 or now=2;wake now=1");
        turned(waves, 0, 1, 0, 1, 0);
        turned(waves, 1, 1, 1, 1, 1);
        turned(waves, 0, 2, 0, 1, 0);
        turned(waves, 1, 2, -2, -2, -2);
        turned(waves, 1, 3, 0, 1, 1);
        turned(waves, 0, 3, 2, 1, 1);
        turned(waves, 1, 96, 0, 1, 94);
        for (int n : new int[] {0, -1, 97, 192, Integer.MAX_VALUE, Integer.MIN_VALUE}) {
            CHECK.due("n " + n, -1, waves.turned(0, 0, n, 0));
        }
    }

    private static void inPlaceOfOneThatIsOn() {
        CHECK.sentence(TURNED, WHAT_IS_TURNED);
        SleepWaves waves = watched("sleep 1=1");
        waves.feast(90);
        turned(waves, 1, 2, 0, 1, 1);
        turned(waves, 1, 3, 0, 1, 2);
        // till the other one begins, that which is on goes on
        turned(waves, 0, 3, 2, 1, 0);
        CHECK.due("that which is on stays", 90, waves.count(9));
    }

    private static void theLeastLengthThenTheLeastBegin() {
        CHECK.sentence(TURNED, WHAT_IS_TURNED);
        // it sits up if it is twelve tired: by eight QUARTERS from 4 on, by nine from 3 on, by ten from 5 on
        turned(watched("sleep now>=4 and tired<12"), 0, 70, 4, 8, 0);
        SleepWaves several = watched("sleep now=7");
        turned(several, 0, 20, 7, 1, 0);
        turned(several, 1, 20, 0, 1, 13);
    }

    private static void justToldCompanies() {
        CHECK.sentence(TURNED, "(COMPANIES as bits, 0 and above).");
        SleepWaves waves = Check.told("company 1 0 0 0;company 1 0 1 0;company 1 0 2 0", "sleep company<2 and now=3");
        turned(waves, 0, 5, 3, 1, 0);
        turned(waves, 3, 5, 0, 1, 0);
        for (int others : new int[] {1, 2, 4, 5, 6, 7}) {
            turned(waves, others, 5, -2, -2, -2);
        }
        for (int wrong : new int[] {8, 15, 4096, 1 << 30, Integer.MAX_VALUE, -1, -8, Integer.MIN_VALUE}) {
            CHECK.due("bits " + wrong, -1, waves.turned(0, wrong, 5, 0));
        }
        StringBuilder twelve = new StringBuilder("watch 0");
        for (int i = 0; i < 12; i++) {
            twelve.append(";company 1 0 ").append(i).append(" 0");
        }
        SleepWaves all = Check.told(twelve.toString(), "sleep 1=1");
        turned(all, 4095, 2, 0, 1, 0);
        CHECK.due("bits 4096", -1, all.turned(0, 4096, 2, 0));
        SleepWaves none = Check.told("watch 1", NOTHING);
        turned(none, 0, 2, 0, 1, 2);
        CHECK.due("bits 1 of none", -1, none.turned(0, 1, 2, 0));
    }

    private static void turnedWithoutThese() {
        CHECK.sentence(TURNED, "TURNED what 0: b, 1: l, 2: how often it FAILS in the n QUARTERS then; -2: there is none; NONE without these");
        SleepWaves waves = watched("sleep now=1");
        for (int what : new int[] {-1, 3, Integer.MAX_VALUE, Integer.MIN_VALUE}) {
            CHECK.due("what " + what, -1, waves.turned(0, 0, 5, what));
        }
        for (int law : new int[] {-1, 1, 6, Integer.MAX_VALUE, Integer.MIN_VALUE}) {
            CHECK.due("law " + law, -1, waves.turned(law, 0, 5, 0));
        }
        waves.tick(0, 3);
        CHECK.due("FAILS till now", 2, waves.count(6));
        turned(waves, 0, 5, 0, 1, 0);
    }

    // ---- promise 19 ----

    private static void harm(SleepWaves waves, int n, int bell, int fails) {
        CHECK.due("harm(0, " + n + ", 0)", bell, waves.harm(0, n, 0));
        CHECK.due("harm(0, " + n + ", 1)", fails, waves.harm(0, n, 1));
    }

    private static void lessOftenThanWithAll() {
        CHECK.sentence(HARM, WHAT_HARMS);
        String law = "sleep bell>0";
        harm(Check.told("company 10 0 0 0;bell 0 1;watch 10", law), 5, 0, 0);
        harm(Check.told("company 10 0 0 0;bell 4 1;watch 10", law), 5, 0, 0);
        // by the fifth it has not rung, and as often is not less often
        harm(Check.told("company 10 0 0 0;bell 5 1;watch 10", law), 5, -2, -2);
        harm(Check.told("company 10 0 0 0;bell 0 1;bell 0 1;watch 10", law), 5, -2, -2);
        harm(Check.told("company 10 0 0 0;bell 0 1;watch 9", "sleep 1=1"), 5, -2, -2);
        harm(Check.told("company 10 0 0 0;bell 0 1", law), 5, -2, -2);
        harm(Check.told("company 10 0 0 0;watch 10", "sleep 1=1"), 5, -2, -2);
        harm(Check.told("company 10 0 0 0;bell 0 1;bell 3 1;watch 10", law), 5, 0, 2);
    }

    private static void ofSeveralBellsTheLeast() {
        CHECK.sentence(HARM, WHAT_HARMS);
        String law = "sleep bell>0;wake bell=0";
        harm(Check.told("company 10 0 0 0;bell 4 1;bell 2 1;bell 0 1;watch 10", law), 6, 0, 2);
        harm(Check.told("company 10 0 0 0;bell 9 1;bell 2 1;bell 0 1;watch 10", law), 6, 1, 1);
        // without the last of eight it fails least often
        String eight = "company 10 0 0 0;watch 10;bell 10 1;bell 12 1;bell 14 1;bell 16 1;bell 18 1;bell 20 1;bell 22 1;bell 0 2";
        harm(Check.told(eight, "sleep bell=2;sleep bell=1;wake now=5 or bell=0 and now>6"), 30, 7, 7);
        harm(Check.told(eight, "sleep bell=1;wake bell=0"), 30, 0, 6);
    }

    private static void harmOneTo192() {
        CHECK.sentence(HARM, "HARM (n 1 to 192) what 0: the BELL, 1: how often it FAILS without it; -2: there is none; NONE without these.");
        SleepWaves waves = Check.told("company 10 0 0 0;bell 0 1;bell 95 1;watch 10", "sleep bell>0 and day=1");
        harm(waves, 1, -2, -2);
        harm(waves, 96, -2, -2);
        harm(waves, 97, 0, 0);
        harm(waves, 192, 0, 1);
        for (int n : new int[] {0, -1, 193, Integer.MAX_VALUE, Integer.MIN_VALUE}) {
            harm(waves, n, -1, -1);
        }
        for (int what : new int[] {-1, 2, Integer.MAX_VALUE, Integer.MIN_VALUE}) {
            CHECK.due("what " + what, -1, waves.harm(0, 5, what));
        }
        for (int law : new int[] {-1, 1, 6, Integer.MAX_VALUE, Integer.MIN_VALUE}) {
            CHECK.due("law " + law, -1, waves.harm(law, 5, 0));
        }
    }

    // ---- promise 24 ----

    private static void fair(SleepWaves waves, int n, int most, int fewest, int more) {
        CHECK.due("fair(0, " + n + ", 0)", most, waves.fair(0, n, 0));
        CHECK.due("fair(0, " + n + ", 1)", fewest, waves.fair(0, n, 1));
        CHECK.due("fair(0, " + n + ", 2)", more, waves.fair(0, n, 2));
    }

    private static void ofSeveralTheLeastEach() {
        CHECK.sentence(FAIR, WHAT_IS_FAIR);
        String five = "company 1 0 0 0;company 1 0 1 0;company 1 0 2 0;company 1 0 3 0;company 1 0 4 0";
        fair(Check.told(five, NOTHING), 9, 0, 0, 0);
        fair(Check.told(five, "sleep 1=1"), 9, 0, 0, 0);
        fair(Check.told(five, "sleep company=1 or company=3"), 9, 1, 0, 9);
        fair(Check.told(five, "sleep company<4 and company>0"), 9, 1, 0, 9);
        fair(Check.told(five, "sleep company>=2"), 9, 2, 0, 9);
        fair(Check.told(five, "sleep now<=2 and company<3;sleep now=2"), 9, 0, 3, 2);
        fair(Check.told(five, "sleep company=0 or company=4 and now=8"), 9, 0, 1, 9);
        fair(Check.told("company 1 0 0 0", "sleep now=3"), 9, 0, 0, 0);
    }

    private static void behindTheseQuarters() {
        CHECK.sentence(FAIR, WHAT_IS_FAIR);
        SleepWaves waves = Check.told("company 1 0 0 0;company 1 0 1 0", "sleep company=1 and now=2;wake now=4");
        waves.lie(0, true);
        int[][] due = {{0, 0, 0}, {0, 1, 1}, {0, 1, 2}, {0, 1, 2}, {0, 1, 2}, {0, 1, 2}};
        for (int n = 0; n < due.length; n++) {
            fair(waves, n, due[n][0], due[n][1], due[n][2]);
        }
    }

    private static void fairNoughtTo192() {
        CHECK.sentence(FAIR, "FAIR (n 0 to 192) what 0: the one, 1: the other, 2: how many more. NONE without these (no COMPANIES, too).");
        SleepWaves waves = Check.told("company 1 0 0 0;company 1 0 1 0", "sleep company=1");
        fair(waves, 0, 0, 0, 0);
        fair(waves, 1, 1, 0, 1);
        fair(waves, 192, 1, 0, 192);
        for (int n : new int[] {-1, 193, Integer.MAX_VALUE, Integer.MIN_VALUE}) {
            fair(waves, n, -1, -1, -1);
        }
        for (int what : new int[] {-1, 3, Integer.MAX_VALUE, Integer.MIN_VALUE}) {
            CHECK.due("what " + what, -1, waves.fair(0, 5, what));
        }
        for (int law : new int[] {-1, 1, 6, Integer.MAX_VALUE, Integer.MIN_VALUE}) {
            CHECK.due("law " + law, -1, waves.fair(law, 5, 0));
        }
        fair(Check.told("watch 1", NOTHING), 0, -1, -1, -1);
        fair(Check.told("watch 1", NOTHING), 5, -1, -1, -1);
    }

    // ---- promise 25 ----

    private static void leastOftenThenLeastTiredThenFirst() {
        CHECK.sentence(BEST_LAW, WHICH_IS_BEST);
        String two = "company 10 0 0 0;company 10 0 1 0;watch 10";
        String both = "sleep 1=1";
        String none = "sleep 1=0";
        String first = "sleep company=0";
        String second = "sleep company=1";
        String late = "sleep company=0 and now=3";
        CHECK.due("the only one", 0, Check.told(two, both).bestLaw(3));
        CHECK.due("the last of six", 5, Check.told(two, both, both, both, both, both, none).bestLaw(3));
        CHECK.due("less often, though more TIRED", 1, Check.told(two, both, none).bestLaw(3));
        CHECK.due("as often, less TIRED", 2, Check.told(two, both, none, first).bestLaw(3));
        CHECK.due("as often, as TIRED, the first", 1, Check.told(two, both, first, none, second).bestLaw(3));
        CHECK.due("less TIRED behind four", 1, Check.told(two, late, first).bestLaw(4));
        CHECK.due("as TIRED behind six", 0, Check.told(two, late, first).bestLaw(6));
        CHECK.due("in three nothing tells them apart", 0, Check.told(two, none, late).bestLaw(3));
        CHECK.due("in four it does", 1, Check.told(two, none, late).bestLaw(4));
    }

    private static void bestLawNoughtTo192() {
        CHECK.sentence(BEST_LAW, "BEST LAW (n 0 to 192); -2: there are none; NONE without these.");
        SleepWaves waves = Check.told("company 10 0 0 0;watch 10", "sleep day=1 and now=95", NOTHING);
        CHECK.due("n 0", 0, waves.bestLaw(0));
        CHECK.due("n 1", 0, waves.bestLaw(1));
        CHECK.due("n 191", 0, waves.bestLaw(191));
        CHECK.due("n 192", 1, waves.bestLaw(192));
        for (int n : new int[] {-1, 193, Integer.MAX_VALUE, Integer.MIN_VALUE}) {
            CHECK.due("n " + n, -1, waves.bestLaw(n));
        }
        for (int n : new int[] {0, 1, 192}) {
            CHECK.due("no LAWS, n " + n, -2, Check.told("company 1 0 0 0").bestLaw(n));
            CHECK.due("no BARRACKS either, n " + n, -2, new SleepWaves().bestLaw(n));
        }
        CHECK.due("no COMPANIES", 0, Check.told("watch 1", NOTHING, NOTHING).bestLaw(5));
    }

    // ---- promise 26 ----

    private static void swap(SleepWaves waves, int n, int both, int tired) {
        CHECK.due("swap(0, " + n + ", 0)", both, waves.swap(0, n, 0));
        CHECK.due("swap(0, " + n + ", 1)", tired, waves.swap(0, n, 1));
    }

    private static void unlikeBedsThatChange() {
        CHECK.sentence(SWAP, WHAT_IS_SWAPPED);
        // two share a BED and cannot both sleep; the third, which never sleeps, has one of its own
        SleepWaves waves = Check.told("company 1 0 4 0;company 1 0 4 0;company 1 0 5 0;duty 2 0 95", "sleep 1=1");
        CHECK.due("without", 6, waves.ahead(0, 3, 3));
        swap(waves, 3, 2, 3);
        CHECK.due("the BEDS stay", 4, waves.company(0, 5));
        CHECK.due("the BEDS stay", 5, waves.company(2, 5));
        // of two with like BEDS nothing changes, and of two alone neither
        swap(Check.told("company 1 0 4 0;company 1 0 4 0", "sleep 1=1"), 3, -2, -2);
        swap(Check.told("company 1 0 4 0;company 1 0 5 0", "sleep 1=1"), 3, -2, -2);
        swap(Check.told("company 1 0 4 0", "sleep 1=1"), 3, -2, -2);
        swap(Check.told("watch 1", "sleep 1=1"), 3, -2, -2);
    }

    private static void ofSeveralTheFirst() {
        CHECK.sentence(SWAP, WHAT_IS_SWAPPED);
        String law = "sleep 1=1";
        // 2 and 3 share a BED; 0 and 1 have duties, and beds of their own
        SleepWaves waves = Check.told("company 1 0 0 0;company 1 0 1 0;company 1 0 2 0;company 1 0 2 0;duty 0 0 95;duty 1 0 95", law);
        swap(waves, 2, 2, 4);
        // the first two find no gain; the lesser comes ahead of the greater
        SleepWaves later = Check.told("company 1 0 0 0;company 1 0 2 0;company 1 0 2 0;company 1 0 1 0;duty 3 0 95", law);
        swap(later, 2, 15, 2);
        // the first of all, and two neighbours
        swap(Check.told("company 1 0 5 0;company 1 0 4 0;company 1 0 4 0;duty 0 0 95", law), 2, 1, 2);
        SleepWaves last = Check.told(Check.times(10, "company 1 0 0 0") + ";company 1 0 0 0;company 1 0 1 0;duty 11 0 95",
            "sleep company=9 or company=10");
        swap(last, 2, 12 * 9 + 11, 20);
        // 0 with 3 is as good as 1 with 2: the lesser tells first
        swap(Check.told("company 1 0 2 0;company 1 0 0 0;company 1 0 2 0;company 1 0 0 0",
            "sleep now%2=company/2%2;wake 1=1"), 4, 3, 9);
        // the last of all: it alone brings the tired one to rest, as in the BED that they share 1 comes ahead of it
        SleepWaves tired = Check.told(Check.times(11, "company 1 0 0 0") + ";company 1 0 1 0;duty 11 0 95",
            "sleep company=1 or company=10");
        tired.lie(0, true);
        tired.tires(10, 50);
        CHECK.due("without", 83, tired.ahead(0, 3, 3));
        swap(tired, 3, 12 * 10 + 11, 74);
    }

    private static void lessThanWithout() {
        CHECK.sentence(SWAP, WHAT_IS_SWAPPED);
        SleepWaves waves = Check.told("company 1 0 4 0;company 1 0 4 0;company 1 0 5 0;duty 2 0 95", "sleep now=2");
        // in two QUARTERS none lies down: as TIRED as without
        swap(waves, 2, -2, -2);
        swap(waves, 3, 2, 3);
    }

    private static void asleepInOneBed() {
        CHECK.sentence(SWAP, "(Two that are ASLEEP in one BED then stay so.)");
        SleepWaves waves = Check.told("company 1 0 0 0;company 1 0 1 0;company 1 0 1 0;company 1 0 2 0;duty 3 0 95",
            "sleep 1=1");
        waves.lie(0, true);
        waves.lie(1, true);
        for (int i = 0; i < 3; i++) {
            waves.tires(i, 20);
        }
        // with 0 and 2 changed, 0 sleeps on where 1 does, and 2 lies down in the BED that 0 had
        swap(waves, 3, 2, 3 * 14 + 3);
    }

    private static void swapOneTo192() {
        CHECK.sentence(SWAP, "SWAP (n 1 to 192) what 0: 12 * the lesser + the greater, 1: TIRED then; -2: there is none; NONE without these.");
        SleepWaves waves = Check.told("company 1 0 4 0;company 1 0 4 0;company 1 0 5 0;duty 2 0 95", "sleep 1=1");
        swap(waves, 1, 2, 1);
        swap(waves, 192, 2, 192);
        for (int n : new int[] {0, -1, 193, Integer.MAX_VALUE, Integer.MIN_VALUE}) {
            swap(waves, n, -1, -1);
        }
        for (int what : new int[] {-1, 2, Integer.MAX_VALUE, Integer.MIN_VALUE}) {
            CHECK.due("what " + what, -1, waves.swap(0, 5, what));
        }
        for (int law : new int[] {-1, 1, 6, Integer.MAX_VALUE, Integer.MIN_VALUE}) {
            CHECK.due("law " + law, -1, waves.swap(law, 5, 0));
        }
    }

    // ---- promise 27 ----

    private static void strike(SleepWaves waves, int n, int at, int fails) {
        CHECK.due("strike(0, " + n + ", 0)", at, waves.strike(0, n, 0));
        CHECK.due("strike(0, " + n + ", 1)", fails, waves.strike(0, n, 1));
    }

    private static void fromTheFirstQuarterToTheLast() {
        CHECK.sentence(STRIKE, WHAT_IS_STRUCK);
        SleepWaves asleep = watched(NOTHING);
        asleep.lie(0, true);
        strike(asleep, 1, 0, 0);
        strike(asleep, 9, 0, 0);
        // it lies down at 4: ahead of that a DRUM helps nothing, and ahead of 5 best
        SleepWaves waves = watched("sleep now=4");
        strike(waves, 4, -2, -2);
        strike(waves, 5, -2, -2);
        strike(waves, 6, 5, 1);
        strike(waves, 9, 5, 1);
        strike(waves, 96, 5, 1);
        strike(watched("sleep now=94"), 96, 95, 1);
    }

    private static void ofSeveralStrokesTheFirst() {
        CHECK.sentence(STRIKE, WHAT_IS_STRUCK);
        SleepWaves waves = watched("sleep now=1 or now=5;wake now=3 or now=7");
        CHECK.due("without", 4, waves.ahead(0, 9, 1));
        strike(waves, 9, 2, 3);
        strike(watched("sleep now=1 or now=5;wake now=3 or now=8"), 9, 6, 3);
    }

    private static void lessOftenThanWithout() {
        CHECK.sentence(STRIKE, WHAT_IS_STRUCK);
        strike(watched("sleep 1=1"), 9, -2, -2);
        strike(watched(NOTHING), 9, -2, -2);
        strike(Check.told("company 10 0 0 0", "sleep now=1"), 9, -2, -2);
        strike(Check.told("watch 1", NOTHING), 9, -2, -2);
    }

    private static void strikeOneTo96() {
        CHECK.sentence(STRIKE, "STRIKE (n 1 to 96) what 0: the QUARTER, 1: how often it FAILS; -2: there is none; NONE without these.");
        SleepWaves waves = watched(NOTHING);
        waves.lie(0, true);
        strike(waves, 96, 0, 0);
        for (int n : new int[] {0, -1, 97, 192, Integer.MAX_VALUE, Integer.MIN_VALUE}) {
            strike(waves, n, -1, -1);
        }
        for (int what : new int[] {-1, 2, Integer.MAX_VALUE, Integer.MIN_VALUE}) {
            CHECK.due("what " + what, -1, waves.strike(0, 5, what));
        }
        for (int law : new int[] {-1, 1, 6, Integer.MAX_VALUE, Integer.MIN_VALUE}) {
            CHECK.due("law " + law, -1, waves.strike(law, 5, 0));
        }
    }

    public static void main(String[] args) {
        nothingChanges();
        itComesAsItWasForeseen();
        quartersGoOnBehind9999();
        aheadNoughtTo192();
        aheadWithoutThese();
        allMenIfNIsNought();
        theLeastOfThem();
        theFirstTimeFromNow();
        tiredOfAllTogetherThen();
        warmMenInThese();
        struckAtNoughtToNLessOne();
        theDrumAheadOfTheQuarter();
        struckNever();
        feastsBeginUpTo47();
        feastsLastUpTo16();
        behindNQuarters();
        inPlaceOfOneThatIsOn();
        theLeastLengthThenTheLeastBegin();
        justToldCompanies();
        turnedWithoutThese();
        lessOftenThanWithAll();
        ofSeveralBellsTheLeast();
        harmOneTo192();
        ofSeveralTheLeastEach();
        behindTheseQuarters();
        fairNoughtTo192();
        leastOftenThenLeastTiredThenFirst();
        bestLawNoughtTo192();
        unlikeBedsThatChange();
        ofSeveralTheFirst();
        lessThanWithout();
        asleepInOneBed();
        swapOneTo192();
        fromTheFirstQuarterToTheLast();
        ofSeveralStrokesTheFirst();
        lessOftenThanWithout();
        strikeOneTo96();
        CHECK.end();
    }
}
