/** Promises 6 to 11, 23 and 29, and how a QUARTER goes: a test for each sentence that names an edge. */
public final class QuarterEdgeTest {
    private static final Check CHECK = new Check("edges of quarters");
    private static final String TICK = "Promise 6: tick";
    private static final String COMPANY = "Promise 7: company";
    private static final String LIE = "Promise 8: lie";
    private static final String TIRES = "Promise 9: tires";
    private static final String DRUM = "Promise 10: drum";
    private static final String FEAST = "Promise 11: feast";
    private static final String WHY = "Promise 23: why";
    private static final String SEED = "Promise 29: seed";

    private static final String WHO_LIES_DOWN = "(1) COMPANIES, by their numbers, that are UP: without a DUTY now, and "
        + "without a FEAST, some sleep TEST holding, and no other one ASLEEP in the same BED: it lies down: ASLEEP;";
    private static final String WHO_IS_WARM = "if another one of that BED got up less than 4 QUARTERS ago "
        + "(NOW less 4 was below NOW then), its men are WARM (counted).";
    private static final String WHO_GETS_UP = "(2) COMPANIES, by their numbers, that were ASLEEP ahead of (1): "
        + "with a DUTY now, or a FEAST, or some wake TEST holding: it gets up.";
    private static final String WHO_SNORES = "(3) COMPANIES, by their numbers, that are ASLEEP (as it is then): "
        + "a DRAW mod 100 below its snore: the next other one ASLEEP in its HALL (the next greater number, "
        + "else from 0 on) gets up.";
    private static final String REASONS = "WHY a COMPANY is as it is, by its last change: 0 as at first, 1 by hand, "
        + "2 by the DRUM, 3 a sleep TEST, 4 a DUTY, 5 a FEAST (without a DUTY), 6 a wake TEST (without these), 7 a snore;";
    private static final String BY_WHAT = "by what: with 3 and 6 the first BELL that rang in that QUARTER (NONE), "
        + "with 4 the first DUTY, with 7 the COMPANY that snored, else NONE.";

    private static final int[] NO_LAWS = {-1, 1, 5, 6, Integer.MAX_VALUE, Integer.MIN_VALUE};
    private static final String NOTHING = "wake 1=0";

    private static void why(SleepWaves waves, int company, int which, int now, int by) {
        CHECK.due("why(" + company + ", 0)", which, waves.why(company, 0));
        CHECK.due("why(" + company + ", 1)", now, waves.why(company, 1));
        CHECK.due("why(" + company + ", 2)", by, waves.why(company, 2));
    }

    private static void company(SleepWaves waves, int company, int asleep, int tired, int stayed) {
        CHECK.due("company(" + company + ", 0)", asleep, waves.company(company, 0));
        CHECK.due("company(" + company + ", 1)", tired, waves.company(company, 1));
        CHECK.due("company(" + company + ", 2)", stayed, waves.company(company, 2));
    }

    private static int next(int x) {
        return (int) ((x * 1103515245L + 12345L) % 2147483648L);
    }

    private static int drawn(int x) {
        return next(x) / 65536 % 100;
    }

    // ---- promise 6 and time ----

    private static void oneToNinetySixQuarters() {
        CHECK.sentence(TICK, "So many QUARTERS (1 to 96) by a LAW: NOW; NONE, and nothing happens, without these,");
        SleepWaves waves = Check.told("company 1 0 0 0", NOTHING);
        CHECK.due("tick(0, 1)", 1, waves.tick(0, 1));
        CHECK.due("tick(0, 96)", 97, waves.tick(0, 96));
        CHECK.due("tick(0, 95)", 192, waves.tick(0, 95));
        CHECK.due("TIRED of each", 192, waves.company(0, 1));
        SleepWaves twin = Check.told("company 1 0 0 0", NOTHING);
        Check.tick(twin, 0, 192);
        for (int n : new int[] {0, -1, 97, 192, Integer.MAX_VALUE, Integer.MIN_VALUE}) {
            CHECK.due("tick(0, " + n + ")", -1, waves.tick(0, n));
        }
        CHECK.same("behind wrong ones", twin, waves);
    }

    private static void withoutALawNothingHappens() {
        CHECK.sentence(TICK, "So many QUARTERS (1 to 96) by a LAW: NOW; NONE, and nothing happens, without these,");
        SleepWaves waves = Check.told("company 1 0 0 0;watch 9", NOTHING);
        SleepWaves twin = Check.told("company 1 0 0 0;watch 9", NOTHING);
        for (int law : NO_LAWS) {
            CHECK.due("tick(" + law + ", 1)", -1, waves.tick(law, 1));
        }
        CHECK.same("behind wrong ones", twin, waves);
        CHECK.due("no LAWS at all", -1, Check.told("company 1 0 0 0").tick(0, 1));
    }

    /** An object at NOW 9998, at a cost of 110 calls. */
    private static SleepWaves late(String barracks, String... laws) {
        SleepWaves waves = Check.told(barracks, laws);
        Check.tick(waves, 0, 9998);
        return waves;
    }

    private static void notAbove9999() {
        CHECK.sentence(TICK, "or if NOW would be above 9999.");
        SleepWaves waves = late("company 1 0 0 0;watch 9", NOTHING);
        SleepWaves twin = late("company 1 0 0 0;watch 9", NOTHING);
        CHECK.due("NOW", 9998, waves.count(4));
        CHECK.due("tick(0, 2)", -1, waves.tick(0, 2));
        CHECK.due("tick(0, 96)", -1, waves.tick(0, 96));
        CHECK.same("behind those", twin, waves);
    }

    private static void upTo9999() {
        CHECK.sentence(TICK, "NOW: QUARTERS from the begin (0 at first, 9999 at most);");
        CHECK.due("at first", 0, Check.told("company 1 0 0 0").count(4));
        SleepWaves waves = late("company 1 0 0 0;watch 9", NOTHING);
        CHECK.due("tick(0, 1)", 9999, waves.tick(0, 1));
        CHECK.due("FAILS", 9999, waves.count(6));
        for (int n : new int[] {1, 2, 96}) {
            CHECK.due("tick(0, " + n + ")", -1, waves.tick(0, n));
            CHECK.due("NOW", 9999, waves.count(4));
            CHECK.due("FAILS", 9999, waves.count(6));
        }
    }

    private static void theDayBeginsAgain() {
        CHECK.sentence(TICK, "the QUARTER of the day is its rest by 96, DAY what it is by 96, downwards.");
        SleepWaves waves = Check.told("company 1 0 0 0;company 1 0 1 0;duty 0 0 0;duty 1 95 95", NOTHING,
            "sleep day=0", "sleep day=1", "sleep now=0");
        int[][] due = {{0, 1, 0, 2, 1, 2}, {1, 0, 0, 1, 2, 2}, {94, 0, 0, 0, 2, 2}, {95, 0, 1, 1, 2, 2},
            {96, 1, 0, 2, 1, 1}, {97, 0, 0, 2, 0, 2}, {191, 0, 1, 2, 1, 2}, {192, 1, 0, 2, 2, 1}};
        // NOW, the duties, and how many stay up by each of the laws; a duty keeps one up
        int now = 0;
        for (int[] row : due) {
            Check.tick(waves, 0, row[0] - now);
            now = row[0];
            CHECK.due("duty of 0 at " + now, row[1], waves.company(0, 7));
            CHECK.due("duty of 1 at " + now, row[2], waves.company(1, 7));
            CHECK.due("day 0 at " + now, now < 96 ? row[1] + row[2] : 2, waves.ahead(1, 1, 0));
            CHECK.due("day 1 at " + now, now / 96 == 1 ? row[1] + row[2] : 2, waves.ahead(2, 1, 0));
            CHECK.due("now 0 at " + now, now % 96 == 0 ? 1 : 2, waves.ahead(3, 1, 0));
        }
    }

    private static void theLastDayIs104() {
        CHECK.sentence(TICK, "the QUARTER of the day is its rest by 96, DAY what it is by 96, downwards.");
        SleepWaves waves = late("company 1 0 0 0;duty 0 15 15", NOTHING, "sleep day=104 and now=14");
        CHECK.due("duty at 9998", 0, waves.company(0, 7));
        CHECK.due("tick", 9999, waves.tick(1, 1));
        CHECK.due("at 9998 it lay down", 1, waves.company(0, 0));
        CHECK.due("duty at 9999", 1, waves.company(0, 7));
    }

    // ---- how a company is ----

    private static void upAtFirst() {
        CHECK.sentence(COMPANY, "A COMPANY is ASLEEP in its BED, or UP (at first);");
        SleepWaves waves = Check.told(Check.times(12, "company 7 0 0 0"));
        for (int i = 0; i < 12; i++) {
            company(waves, i, 0, 0, 0);
        }
        CHECK.due("MEN UP", 84, waves.count(5));
    }

    private static void tiredWithinItsBounds() {
        CHECK.sentence(COMPANY, "TIRED: 0 to 999 (0 at first);");
        SleepWaves waves = Check.told("company 1 0 0 0;company 1 0 1 0", NOTHING);
        waves.lie(1, true);
        int[][] up = {{0, 1}, {1, 2}, {997, 998}, {998, 999}, {999, 999}};
        int[][] asleep = {{0, 0}, {1, 0}, {2, 0}, {3, 1}, {999, 997}};
        for (int i = 0; i < 5; i++) {
            waves.tires(0, up[i][0]);
            waves.tires(1, asleep[i][0]);
            waves.tick(0, 1);
            CHECK.due("UP, from " + up[i][0], up[i][1], waves.company(0, 1));
            CHECK.due("ASLEEP, from " + asleep[i][0], asleep[i][1], waves.company(1, 1));
        }
    }

    private static void longIsNoughtWhenThatChanges() {
        CHECK.sentence(COMPANY, "LONG: how many QUARTERS it has been so (0 at first, and when that changes; 999 at most).");
        SleepWaves waves = Check.told("company 1 0 0 0", NOTHING, "sleep 1=1;wake 1=1");
        waves.tick(0, 7);
        company(waves, 0, 0, 7, 7);
        waves.lie(0, true);
        company(waves, 0, 1, 7, 0);
        waves.tick(0, 2);
        company(waves, 0, 1, 3, 2);
        waves.lie(0, false);
        company(waves, 0, 0, 3, 0);
        waves.tick(1, 1);
        company(waves, 0, 1, 1, 1);
        waves.tick(1, 1);
        company(waves, 0, 0, 2, 1);
        waves.lie(0, true);
        waves.tick(0, 3);
        waves.drum();
        company(waves, 0, 0, 0, 0);
    }

    private static void longStaysWhenThatDoesNotChange() {
        CHECK.sentence(COMPANY, "LONG: how many QUARTERS it has been so (0 at first, and when that changes; 999 at most).");
        SleepWaves waves = Check.told("company 1 0 0 0;company 1 0 0 0", "sleep company=0");
        waves.tick(0, 4);
        waves.lie(0, true);
        waves.lie(1, true);
        waves.lie(1, false);
        waves.tires(1, 9);
        company(waves, 0, 1, 0, 4);
        company(waves, 1, 0, 9, 4);
        waves.lie(0, false);
        waves.feast(3);
        waves.drum();
        waves.tick(0, 1);
        CHECK.due("it was up", 5, waves.company(1, 2));
    }

    private static void long999AtMost() {
        CHECK.sentence(COMPANY, "LONG: how many QUARTERS it has been so (0 at first, and when that changes; 999 at most).");
        SleepWaves waves = Check.told("company 1 0 0 0;company 1 0 1 0", NOTHING);
        waves.lie(1, true);
        Check.tick(waves, 0, 998);
        for (int i = 0; i < 4; i++) {
            CHECK.due("UP, LONG", Math.min(999, 998 + i), waves.company(0, 2));
            CHECK.due("ASLEEP, LONG", Math.min(999, 998 + i), waves.company(1, 2));
            waves.tick(0, 1);
        }
    }

    private static void menUpAreOfThoseUp() {
        CHECK.sentence(TICK, "MEN UP: those of COMPANIES that are UP.");
        SleepWaves waves = Check.told("company 1 0 0 0;company 10 0 1 0;company 99 0 2 0", "sleep 1=1");
        CHECK.due("all", 110, waves.count(5));
        waves.lie(1, true);
        CHECK.due("two", 100, waves.count(5));
        waves.tick(0, 1);
        CHECK.due("none", 0, waves.count(5));
        waves.lie(2, false);
        CHECK.due("one", 99, waves.count(5));
        waves.drum();
        CHECK.due("all again", 110, waves.count(5));
    }

    private static void companyWithoutThese() {
        CHECK.sentence(COMPANY, "Of a COMPANY what 0: 1 if it is ASLEEP, else 0, 1: TIRED, 2: LONG, 3: men, 4: HALL, "
            + "5: BED, 6: snore, 7: 1 if it has a DUTY now, else 0. NONE without these.");
        SleepWaves waves = Check.told("company 9 3 11 100;company 8 2 10 99;duty 1 0 0", NOTHING);
        waves.lie(0, true);
        waves.tires(1, 5);
        int[][] due = {{1, 0, 0, 9, 3, 11, 100, 0}, {0, 5, 0, 8, 2, 10, 99, 1}};
        for (int what = 0; what < 8; what++) {
            CHECK.due("company(0, " + what + ")", due[0][what], waves.company(0, what));
            CHECK.due("company(1, " + what + ")", due[1][what], waves.company(1, what));
            for (int wrong : new int[] {-1, 2, 11, 12, Integer.MAX_VALUE, Integer.MIN_VALUE}) {
                CHECK.due("company(" + wrong + ", " + what + ")", -1, waves.company(wrong, what));
            }
        }
        for (int what : new int[] {-1, 8, 9, Integer.MAX_VALUE, Integer.MIN_VALUE}) {
            CHECK.due("company(0, " + what + ")", -1, waves.company(0, what));
        }
    }

    // ---- (1) who lies down ----

    private static void aDutyNowKeepsUp() {
        CHECK.sentence(TICK, WHO_LIES_DOWN);
        SleepWaves waves = Check.told("company 1 0 0 0;company 1 0 1 0;duty 0 1 1;duty 1 0 0;duty 0 3 3", "sleep 1=1");
        int[] up = {2, 1, 0, 1, 0};
        for (int now = 0; now < up.length; now++) {
            waves.tick(0, 1);
            CHECK.due("UP at " + now, up[now], waves.log(1));
        }
    }

    private static void aFeastKeepsUp() {
        CHECK.sentence(TICK, WHO_LIES_DOWN);
        SleepWaves waves = Check.told("company 1 0 0 0", "sleep 1=1");
        waves.feast(2);
        int[] up = {1, 1, 0, 0};
        for (int now = 0; now < up.length; now++) {
            waves.tick(0, 1);
            CHECK.due("UP at " + now, up[now], waves.log(1));
        }
    }

    private static void oneOfABedSleeps() {
        CHECK.sentence(TICK, WHO_LIES_DOWN);
        // one BED through all HALLS
        SleepWaves waves = Check.told("company 1 0 0 0;company 1 1 0 0;company 1 2 1 0;company 1 3 0 0", "sleep 1=1",
            "sleep company>0", "wake company=0;sleep company>0");
        waves.tick(0, 1);
        CHECK.due("the least number of them", 10, waves.log(1));
        waves.tick(1, 1);
        CHECK.due("who sleeps there stays", 10, waves.log(1));
        waves.tick(2, 1);
        CHECK.due("what comes free in (2) is not free in (1)", 11, waves.log(1));
        waves.tick(2, 1);
        CHECK.due("it is free then", 9, waves.log(1));
    }

    private static void byTheirNumbers() {
        CHECK.sentence(TICK, WHO_LIES_DOWN);
        SleepWaves waves = Check.told(Check.times(12, "company 1 0 0 0"), "sleep company>3");
        waves.tick(0, 1);
        CHECK.due("the least that may", 4095 - 16, waves.log(1));
        SleepWaves spread = Check.told("company 5 0 0 0;company 5 0 1 0;company 5 0 2 0", "sleep up>5");
        spread.tick(0, 1);
        CHECK.due("the last one stays up", 4, spread.log(1));
    }

    private static void withoutATestNoneLiesDown() {
        CHECK.sentence(TICK, WHO_LIES_DOWN);
        SleepWaves waves = Check.told("company 1 0 0 0", "wake 1=1", "sleep 1=0", "sleep 1=0;sleep 1=1;sleep 1=0");
        waves.tick(0, 1);
        CHECK.due("no sleep TEST", 1, waves.log(1));
        waves.tick(1, 1);
        CHECK.due("none holding", 1, waves.log(1));
        waves.tick(2, 1);
        CHECK.due("some holding", 0, waves.log(1));
    }

    // ---- warm beds ----

    /** WARM men if company 0 gets up at the first of these and company 1 lies down in the same BED at the second. */
    private static int warmMen(int upAt, int downAt) {
        SleepWaves waves = Check.told("company 10 0 0 0;company 20 1 0 0", "sleep company=1 and now=" + downAt);
        Check.tick(waves, 0, upAt);
        waves.lie(0, true);
        waves.lie(0, false);
        waves.tick(0, downAt - upAt + 1);
        CHECK.due("company 1 lay down", 1, waves.company(1, 0));
        return waves.count(8);
    }

    private static void warmForLessThanFourQuarters() {
        CHECK.sentence(TICK, WHO_IS_WARM);
        for (int upAt : new int[] {0, 1, 4, 5, 50}) {
            for (int later = 0; later <= 6; later++) {
                CHECK.due(later + " QUARTERS behind " + upAt, later < 4 ? 20 : 0, warmMen(upAt, upAt + later));
            }
        }
    }

    private static void nothingIsWarmAtFirst() {
        CHECK.sentence(TICK, WHO_IS_WARM);
        for (int now = 0; now < 5; now++) {
            SleepWaves waves = Check.told("company 10 0 0 0;company 20 0 0 0", "sleep now=" + now);
            waves.tick(0, 5);
            CHECK.due("at " + now, 0, waves.count(8));
        }
    }

    private static void anotherOneOfThatBed() {
        CHECK.sentence(TICK, WHO_IS_WARM);
        SleepWaves own = Check.told("company 10 0 0 0;company 20 0 0 0;company 30 0 1 0", "sleep company=0 and now=1");
        own.lie(0, true);
        own.lie(0, false);
        own.tick(0, 2);
        CHECK.due("its own", 0, own.count(8));
        SleepWaves other = Check.told("company 10 0 0 0;company 20 0 0 0;company 30 0 1 0", "sleep company=0 and now=1");
        other.lie(2, true);
        other.lie(2, false);
        other.tick(0, 2);
        CHECK.due("of another BED", 0, other.count(8));
        SleepWaves two = Check.told("company 10 0 0 0;company 20 0 0 0;company 30 0 0 0", "sleep company=0 and now=1");
        for (int i = 1; i <= 2; i++) {
            two.lie(i, true);
            two.lie(i, false);
        }
        two.tick(0, 2);
        CHECK.due("of two others, counted once", 10, two.count(8));
        SleepWaves older = Check.told("company 10 0 0 0;company 20 0 0 0;company 30 0 0 0", "sleep company=0 and now=5");
        older.lie(1, true);
        older.lie(1, false);
        older.tick(0, 5);
        older.lie(2, true);
        older.lie(2, false);
        older.tick(0, 1);
        CHECK.due("the one long ago, the other now", 10, older.count(8));
    }

    private static void warmHoweverItGotUp() {
        CHECK.sentence(TICK, WHO_IS_WARM);
        String barracks = "company 10 0 0 0;company 20 0 0 0;company 5 0 1 100";
        for (int how = 0; how < 4; how++) {
            String duty = how == 1 ? ";duty 0 0 0" : "";
            SleepWaves waves = Check.told(barracks + duty, how == 2 ? "wake company=0" : NOTHING, "sleep company=1");
            waves.lie(0, true);
            if (how == 3) {
                waves.lie(2, true);
            }
            waves.feast(how == 0 ? 1 : 0);
            waves.tick(0, 1);
            CHECK.due("it got up", 0, waves.company(0, 0));
            CHECK.due("by that", new int[] {5, 4, 6, 7}[how], waves.why(0, 0));
            waves.tick(1, 1);
            CHECK.due("WARM men", 20, waves.count(8));
        }
        SleepWaves drum = Check.told(barracks, "sleep company=1");
        drum.lie(0, true);
        drum.drum();
        drum.tick(0, 1);
        CHECK.due("WARM men by the DRUM", 20, drum.count(8));
    }

    private static void warmMenAreCountedTogether() {
        CHECK.sentence(TICK, WHO_IS_WARM);
        SleepWaves waves = Check.told("company 10 0 0 0;company 20 0 0 0", "sleep company=1;wake 1=1");
        waves.lie(0, true);
        waves.lie(0, false);
        int[] warm = {20, 20, 40, 40, 40, 40};
        for (int now = 0; now < warm.length; now++) {
            waves.tick(0, 1);
            CHECK.due("WARM men behind " + now, warm[now], waves.count(8));
        }
    }

    // ---- (2) who gets up ----

    private static void whoLayDownInOneStays() {
        CHECK.sentence(TICK, WHO_GETS_UP);
        SleepWaves waves = Check.told("company 1 0 0 0", "sleep 1=1;wake 1=1");
        for (int now = 0; now < 6; now++) {
            waves.tick(0, 1);
            CHECK.due("UP at " + now, now % 2, waves.log(1));
        }
    }

    private static void whatWakes() {
        CHECK.sentence(TICK, WHO_GETS_UP);
        for (int which = 0; which < 8; which++) {
            boolean duty = (which & 1) != 0;
            boolean feast = (which & 2) != 0;
            boolean test = (which & 4) != 0;
            SleepWaves waves = Check.told("company 1 0 0 0;duty 0 " + (duty ? "0 0" : "1 1"),
                test ? "wake 1=0;wake 1=1" : "wake 1=0;sleep 1=1");
            waves.lie(0, true);
            waves.feast(feast ? 1 : 0);
            waves.tick(0, 1);
            CHECK.due("duty " + duty + ", feast " + feast + ", test " + test, duty || feast || test ? 1 : 0, waves.log(1));
        }
    }

    private static void eachThatGetsUpCountsForTheNext() {
        CHECK.sentence(TICK, WHO_GETS_UP);
        SleepWaves waves = Check.told("company 1 0 0 0;company 1 0 1 0;company 1 0 2 0", "wake up<2");
        for (int i = 0; i < 3; i++) {
            waves.lie(i, true);
        }
        waves.tick(0, 1);
        CHECK.due("the first two", 3, waves.log(1));
    }

    // ---- (3) who snores ----

    /** Three that lie in one HALL and one in another, with these snores; who is up behind a QUARTER. */
    private static int upBySnores(int a, int b, int c, int d) {
        SleepWaves waves = Check.told("company 1 0 0 " + a + ";company 1 0 1 " + b + ";company 1 0 2 " + c
            + ";company 1 1 3 " + d, "sleep 1=1");
        waves.tick(0, 1);
        return waves.log(1);
    }

    private static void theNextOtherOneOfItsHall() {
        CHECK.sentence(TICK, WHO_SNORES);
        CHECK.due("none snores", 0, upBySnores(0, 0, 0, 0));
        CHECK.due("the next greater number", 2, upBySnores(100, 0, 0, 0));
        CHECK.due("the next greater number", 4, upBySnores(0, 100, 0, 0));
        CHECK.due("else from 0 on", 1, upBySnores(0, 0, 100, 0));
        CHECK.due("alone in its HALL", 0, upBySnores(0, 0, 0, 100));
        CHECK.due("1, waked by 0, snores no more; 2 wakes 0", 3, upBySnores(100, 100, 100, 100));
        CHECK.due("1 wakes 2, which snores no more", 4, upBySnores(0, 100, 100, 0));
    }

    private static void whoIsUpIsPassedBy() {
        CHECK.sentence(TICK, WHO_SNORES);
        SleepWaves waves = Check.told("company 1 0 0 0;company 1 0 1 0;company 1 0 2 100;company 1 0 3 0;company 1 1 4 0",
            NOTHING);
        for (int i : new int[] {1, 2, 4}) {
            waves.lie(i, true);
        }
        waves.tick(0, 1);
        CHECK.due("3 and 0 are up: 1 gets up", 11, waves.log(1));
        waves.tick(0, 1);
        CHECK.due("none else sleeps there", 11, waves.log(1));
    }

    private static void asItIsThen() {
        CHECK.sentence(TICK, WHO_SNORES);
        SleepWaves waves = Check.told("company 1 0 0 100;company 1 0 1 0;company 1 0 2 0", "sleep company=2;wake company=0");
        waves.lie(0, true);
        waves.lie(1, true);
        waves.tick(0, 1);
        CHECK.due("0 got up in (2) and does not snore", 1, waves.log(1));
        CHECK.due("1 and 2, who lay down in (1), draw", next(next(0)), waves.count(11));
        SleepWaves lain = Check.told("company 1 0 0 100;company 1 0 1 0", "sleep company=0");
        lain.lie(1, true);
        lain.tick(0, 1);
        CHECK.due("0 lay down in (1) and snores", 2, lain.log(1));
    }

    private static void belowItsSnore() {
        CHECK.sentence(TICK, WHO_SNORES);
        for (int i = 0; i < 60; i++) {
            int x = i * 35791397;
            for (int snore : new int[] {drawn(x), drawn(x) + 1}) {
                SleepWaves waves = Check.told("company 1 0 0 " + snore + ";company 1 0 1 0", "sleep 1=1");
                waves.seed(x);
                waves.tick(0, 1);
                CHECK.due("drawn " + drawn(x) + ", snore " + snore, snore > drawn(x) ? 2 : 0, waves.log(1));
            }
        }
    }

    private static void everySleeperDraws() {
        CHECK.sentence(TICK, WHO_SNORES);
        for (int sleepers = 0; sleepers <= 12; sleepers++) {
            StringBuilder text = new StringBuilder("watch 0");
            for (int i = 0; i < 12; i++) {
                text.append(";company 1 ").append(i % 4).append(' ').append(i).append(" 0");
            }
            SleepWaves waves = Check.told(text.toString(), "sleep company<" + sleepers);
            waves.tick(0, 1);
            int x = 0;
            for (int i = 0; i < sleepers; i++) {
                x = next(x);
            }
            CHECK.due("x behind " + sleepers + " draws", x, waves.count(11));
        }
    }

    private static void theDraw() {
        CHECK.sentence(SEED, "A DRAW: x (0 to 2147483647; 0 at first) becomes x * 1103515245 + 12345, of 2147483648 the rest; it is x / 65536.");
        int[][] draws = {{0, 12345}, {1, 1103527590}, {2, 59559187}, {Integer.MAX_VALUE, 1043980748}, {1 << 30, 1073754169},
            {12345, 1406932606}};
        for (int[] draw : draws) {
            SleepWaves waves = Check.told("company 1 0 0 0", "sleep 1=1");
            waves.seed(draw[0]);
            waves.tick(0, 1);
            CHECK.due("x behind " + draw[0], draw[1], waves.count(11));
        }
        SleepWaves first = Check.told("company 1 0 0 0", "sleep 1=1");
        first.tick(0, 1);
        CHECK.due("x was 0 at first", 12345, first.count(11));
    }

    // ---- (4) and (5) ----

    private static void tiredAndLongOfEach() {
        CHECK.sentence(TICK, "(4) TIRED is 1 more for those UP, 2 less for those ASLEEP (held to its bounds); LONG is 1 more.");
        SleepWaves waves = Check.told("company 1 0 0 0;company 1 0 1 0", "sleep company=1 and now=3;wake now=5");
        int[][] due = {{1, 1, 1}, {2, 2, 2}, {3, 3, 3}, {4, 1, 1}, {5, 0, 2}, {6, 1, 1}};
        for (int[] row : due) {
            waves.tick(0, 1);
            company(waves, 0, 0, row[0], row[0]);
            company(waves, 1, row[0] == 4 || row[0] == 5 ? 1 : 0, row[1], row[2]);
        }
    }

    private static void failsBelowTheWatch() {
        CHECK.sentence(TICK, "(5) MEN UP below the watch: it FAILS (counted; the first time is kept as NOW).");
        for (int watch = 9; watch <= 12; watch++) {
            SleepWaves waves = Check.told("company 10 0 0 0;watch " + watch, NOTHING);
            waves.tick(0, 1);
            CHECK.due("FAILS with 10 of " + watch, watch > 10 ? 1 : 0, waves.count(6));
            CHECK.due("the first time with 10 of " + watch, watch > 10 ? 0 : -2, waves.count(7));
        }
        SleepWaves none = Check.told("company 1 0 0 0;watch 1", "sleep 1=1");
        none.tick(0, 1);
        CHECK.due("with none up", 1, none.count(6));
    }

    private static void theFirstTimeIsKept() {
        CHECK.sentence(TICK, "(5) MEN UP below the watch: it FAILS (counted; the first time is kept as NOW).");
        SleepWaves waves = Check.told("company 10 0 0 0;watch 10", "sleep now%3=2;wake 1=1");
        int[] fails = {0, 0, 1, 1, 1, 2, 2, 2, 3};
        for (int now = 0; now < fails.length; now++) {
            waves.tick(0, 1);
            CHECK.due("FAILS behind " + now, fails[now], waves.count(6));
            CHECK.due("the first behind " + now, now < 2 ? -2 : 2, waves.count(7));
        }
    }

    private static void theLogIsOf192() {
        CHECK.sentence(TICK, "Who is UP comes to the LOG (the last 192 QUARTERS). NOW is 1 more.");
        SleepWaves waves = Check.told("company 1 0 0 0;company 1 0 1 0", "sleep now=0 and day=0;wake now=1;sleep now=95");
        for (int i = 1; i <= 8; i++) {
            waves.tick(0, 1);
            CHECK.due("NOW", i, waves.count(4));
            CHECK.due("in the LOG", i, waves.count(10));
        }
        waves.tick(0, 88);
        waves.tick(0, 95);
        CHECK.due("in the LOG", 191, waves.count(10));
        CHECK.due("the first one", 0, waves.log(191));
        waves.tick(0, 1);
        CHECK.due("in the LOG", 192, waves.count(10));
        CHECK.due("the first one", 0, waves.log(192));
        CHECK.due("the last one", 0, waves.log(1));
        waves.tick(0, 1);
        CHECK.due("in the LOG", 192, waves.count(10));
        CHECK.due("the first one is gone", 3, waves.log(192));
        CHECK.due("none behind it", -1, waves.log(193));
        CHECK.due("the last but one", 0, waves.log(2));
    }

    // ---- promise 8: by hand ----

    private static void aBedMustBeFree() {
        CHECK.sentence(LIE, "BY HAND: a COMPANY lies down (BED free; not WARM) or gets up;");
        SleepWaves waves = Check.told("company 1 0 0 0;company 1 1 0 0;company 1 0 1 0", NOTHING);
        CHECK.due("lie(0, true)", true, waves.lie(0, true));
        CHECK.due("the same BED in another HALL", false, waves.lie(1, true));
        CHECK.due("another BED", true, waves.lie(2, true));
        CHECK.due("lie(0, false)", true, waves.lie(0, false));
        CHECK.due("it is free then", true, waves.lie(1, true));
        CHECK.due("not WARM", 0, waves.count(8));
        CHECK.due("MEN UP", 1, waves.count(5));
    }

    private static void byHandAtADutyOrFeast() {
        CHECK.sentence(LIE, "BY HAND: a COMPANY lies down, or gets up: true;");
        SleepWaves waves = Check.told("company 1 0 0 0;company 1 0 1 0;duty 0 0 0", NOTHING);
        waves.feast(1);
        CHECK.due("with a DUTY", true, waves.lie(0, true));
        CHECK.due("with a FEAST", true, waves.lie(1, true));
        CHECK.due("ASLEEP", 1, waves.company(0, 0));
        CHECK.due("get up", true, waves.lie(0, false));
        CHECK.due("UP", 0, waves.company(0, 0));
    }

    private static void lieFalseAndNothingHappens() {
        CHECK.sentence(LIE, "false, and nothing happens: there is none, it is so, or the BED is not free.");
        SleepWaves waves = Check.told("company 1 0 0 0;company 2 0 0 0", NOTHING);
        SleepWaves twin = Check.told("company 1 0 0 0;company 2 0 0 0", NOTHING);
        for (SleepWaves one : new SleepWaves[] {waves, twin}) {
            one.lie(0, true);
            one.tick(0, 3);
        }
        for (int none : new int[] {-1, 2, 11, 12, 32, Integer.MAX_VALUE, Integer.MIN_VALUE}) {
            CHECK.due("there is none", false, waves.lie(none, true));
            CHECK.due("there is none", false, waves.lie(none, false));
        }
        CHECK.due("it is so", false, waves.lie(0, true));
        CHECK.due("it is so", false, waves.lie(1, false));
        CHECK.due("not free", false, waves.lie(1, true));
        CHECK.same("behind those", twin, waves);
        waves.tick(0, 2);
        twin.tick(0, 2);
        CHECK.same("and later", twin, waves);
    }

    // ---- promises 9 to 11, 29 ----

    private static void tiresNoughtTo999() {
        CHECK.sentence(TIRES, "TIRED of a COMPANY becomes n (0 to 999): what it was; NONE, and nothing happens, without these.");
        SleepWaves waves = Check.told("company 1 0 0 0;company 1 0 1 0");
        CHECK.due("what it was", 0, waves.tires(0, 999));
        CHECK.due("what it was", 999, waves.tires(0, 0));
        CHECK.due("what it was", 0, waves.tires(0, 1));
        CHECK.due("what it was", 1, waves.tires(0, 998));
        for (int n : new int[] {-1, 1000, Integer.MAX_VALUE, Integer.MIN_VALUE}) {
            CHECK.due("tires(0, " + n + ")", -1, waves.tires(0, n));
        }
        for (int none : new int[] {-1, 2, 12, Integer.MAX_VALUE, Integer.MIN_VALUE}) {
            CHECK.due("tires(" + none + ", 5)", -1, waves.tires(none, 5));
        }
        company(waves, 0, 0, 998, 0);
        company(waves, 1, 0, 0, 0);
    }

    private static void theDrumWakesAll() {
        CHECK.sentence(DRUM, "The DRUM: how many COMPANIES get up.");
        StringBuilder text = new StringBuilder("watch 0");
        for (int i = 0; i < 12; i++) {
            text.append(";company 1 0 ").append(i).append(" 0");
        }
        SleepWaves waves = Check.told(text.toString(), NOTHING);
        CHECK.due("of none", 0, waves.drum());
        for (int many = 1; many <= 12; many++) {
            for (int i = 0; i < many; i++) {
                waves.lie(i, true);
            }
            CHECK.due("of " + many, many, waves.drum());
            CHECK.due("MEN UP", 12, waves.count(5));
        }
        CHECK.due("again", 0, waves.drum());
        CHECK.due("without COMPANIES", 0, new SleepWaves().drum());
    }

    private static void theDrumLeavesThoseUp() {
        CHECK.sentence(DRUM, "the DRUM: all ASLEEP get up;");
        SleepWaves waves = Check.told("company 1 0 0 0;company 1 0 1 0", "sleep company=0");
        waves.tick(0, 3);
        CHECK.due("drum()", 1, waves.drum());
        company(waves, 0, 0, 0, 0);
        why(waves, 0, 2, 3, -1);
        company(waves, 1, 0, 3, 3);
        why(waves, 1, 0, 0, -1);
        waves.tick(0, 1);
        CHECK.due("it may lie down again", 1, waves.company(0, 0));
    }

    private static void feastNoughtTo96() {
        CHECK.sentence(FEAST, "A FEAST of n QUARTERS (0 to 96) from now on, in place of one that is on: until when; NONE, and nothing happens, for others.");
        SleepWaves waves = Check.told("company 1 0 0 0", "sleep 1=1");
        CHECK.due("none at first", 0, waves.count(9));
        CHECK.due("feast(0)", 0, waves.feast(0));
        CHECK.due("feast(96)", 96, waves.feast(96));
        waves.tick(0, 1);
        for (int n : new int[] {-1, 97, Integer.MAX_VALUE, Integer.MIN_VALUE}) {
            CHECK.due("feast(" + n + ")", -1, waves.feast(n));
            CHECK.due("its end", 96, waves.count(9));
        }
        waves.tick(0, 95);
        CHECK.due("UP all the time", 96, waves.run(0));
        waves.tick(0, 1);
        CHECK.due("ASLEEP behind it", 0, waves.log(1));
    }

    private static void aFeastIsOnWhileNowIsBelowItsEnd() {
        CHECK.sentence(FEAST, "A FEAST is on while NOW is below its end (0 at first).");
        for (int n = 0; n <= 3; n++) {
            SleepWaves waves = Check.told("company 1 0 0 0", "sleep 1=1");
            waves.tick(0, 2);
            CHECK.due("feast(" + n + ")", 2 + n, waves.feast(n));
            waves.tick(0, 4);
            for (int later = 0; later < 4; later++) {
                CHECK.due("UP at " + (2 + later) + " of " + n, later < n ? 1 : 0, waves.log(4 - later));
            }
        }
        SleepWaves first = Check.told("company 1 0 0 0", "sleep 1=1");
        first.tick(0, 1);
        CHECK.due("none at first", 0, first.log(1));
    }

    private static void aFeastInPlaceOfOne() {
        CHECK.sentence(FEAST, "A FEAST of n QUARTERS (0 to 96) from now on, in place of one that is on: until when; NONE, and nothing happens, for others.");
        SleepWaves waves = Check.told("company 1 0 0 0", "sleep 1=1");
        waves.feast(50);
        waves.tick(0, 3);
        CHECK.due("a shorter one", 5, waves.feast(2));
        waves.tick(0, 3);
        CHECK.due("UP at 4", 1, waves.log(2));
        CHECK.due("ASLEEP at 5", 0, waves.log(1));
        waves.feast(1);
        CHECK.due("a longer one", 8, waves.feast(2));
        waves.tick(0, 2);
        CHECK.due("UP at 7", 1, waves.log(1));
        waves.feast(9);
        CHECK.due("none", 8, waves.feast(0));
        waves.tick(0, 1);
        CHECK.due("ASLEEP at 8", 0, waves.log(1));
    }

    private static void aFeastBehind9999() {
        CHECK.sentence(FEAST, "a FEAST of n QUARTERS from now on.");
        SleepWaves waves = late("company 1 0 0 0", NOTHING, "sleep 1=1");
        CHECK.due("feast(96)", 10094, waves.feast(96));
        CHECK.due("its end", 10094, waves.count(9));
        CHECK.due("till then all are up", 1, waves.ahead(1, 96, 0));
        CHECK.due("and then they are not", 0, waves.ahead(1, 97, 0));
    }

    private static void seedsFromNought() {
        CHECK.sentence(SEED, "x becomes a number: what it was; NONE, and nothing happens, below 0.");
        SleepWaves waves = new SleepWaves();
        CHECK.due("0 at first", 0, waves.seed(1));
        CHECK.due("what it was", 1, waves.seed(Integer.MAX_VALUE));
        CHECK.due("count(11)", Integer.MAX_VALUE, waves.count(11));
        for (int below : new int[] {-1, -2, Integer.MIN_VALUE}) {
            CHECK.due("seed(" + below + ")", -1, waves.seed(below));
            CHECK.due("count(11)", Integer.MAX_VALUE, waves.count(11));
        }
        CHECK.due("what it was", Integer.MAX_VALUE, waves.seed(0));
        CHECK.due("count(11)", 0, waves.count(11));
    }

    // ---- promise 23 ----

    private static void whyWithoutThese() {
        CHECK.sentence(WHY, "WHY what 0: which, 1: NOW of it, 2: by what. -2 without these.");
        SleepWaves waves = Check.told("company 1 0 0 0;company 1 0 0 0");
        for (int none : new int[] {-1, 2, 11, 12, Integer.MAX_VALUE, Integer.MIN_VALUE}) {
            for (int what = 0; what <= 2; what++) {
                CHECK.due("why(" + none + ", " + what + ")", -2, waves.why(none, what));
            }
        }
        for (int what : new int[] {-1, 3, Integer.MAX_VALUE, Integer.MIN_VALUE}) {
            CHECK.due("why(0, " + what + ")", -2, waves.why(0, what));
        }
        CHECK.due("without COMPANIES", -2, new SleepWaves().why(0, 0));
        why(waves, 1, 0, 0, -1);
    }

    private static void asAtFirst() {
        CHECK.sentence(WHY, "NOW of it (0 at first);");
        SleepWaves waves = Check.told("company 1 0 0 0;bell 0 1;duty 0 0 95", "sleep 1=1;wake 1=1");
        waves.tick(0, 9);
        why(waves, 0, 0, 0, -1);
    }

    private static void whyByEach() {
        CHECK.sentence(WHY, REASONS);
        SleepWaves waves = Check.told("company 1 0 0 0;company 1 0 1 100;duty 0 6 6",
            "sleep now=1 and company=0;wake now=2;sleep now>2 and company=0", "sleep company=1");
        why(waves, 0, 0, 0, -1);
        waves.lie(0, true);
        why(waves, 0, 1, 0, -1);
        waves.drum();
        why(waves, 0, 2, 0, -1);
        waves.tick(0, 2);
        why(waves, 0, 3, 1, -1);
        waves.tick(0, 1);
        why(waves, 0, 6, 2, -1);
        waves.tick(0, 1);
        why(waves, 0, 3, 3, -1);
        waves.feast(1);
        waves.tick(0, 1);
        why(waves, 0, 5, 4, -1);
        waves.tick(0, 1);
        why(waves, 0, 3, 5, -1);
        waves.tick(0, 1);
        why(waves, 0, 4, 6, 0);
        waves.tick(0, 1);
        waves.tick(1, 1);
        why(waves, 0, 7, 8, 1);
        waves.lie(0, true);
        waves.lie(0, false);
        why(waves, 0, 1, 9, -1);
    }

    private static void dutyAheadOfFeastAheadOfTest() {
        CHECK.sentence(WHY, REASONS);
        for (int which = 1; which < 8; which++) {
            SleepWaves waves = Check.told("company 1 0 0 0;bell 0 1" + ((which & 1) != 0 ? ";duty 0 0 0" : ""),
                (which & 4) != 0 ? "wake 1=1" : NOTHING);
            waves.lie(0, true);
            waves.feast((which & 2) != 0 ? 1 : 0);
            waves.tick(0, 1);
            boolean duty = (which & 1) != 0;
            boolean feast = (which & 2) != 0;
            why(waves, 0, duty ? 4 : feast ? 5 : 6, 0, duty || !feast ? 0 : -1);
        }
    }

    private static void whatDoesNotChangeKeepsItsReason() {
        CHECK.sentence(WHY, REASONS);
        SleepWaves waves = Check.told("company 1 0 0 0;company 1 0 0 0;bell 3 1", "sleep 1=1");
        waves.tick(0, 2);
        waves.lie(0, true);
        waves.lie(1, true);
        waves.lie(1, false);
        waves.tick(0, 3);
        why(waves, 0, 3, 0, -1);
        why(waves, 1, 0, 0, -1);
    }

    private static void theFirstBellOfThatQuarter() {
        CHECK.sentence(WHY, BY_WHAT);
        String bells = "company 1 0 0 0;company 1 0 1 100;bell 9 1;bell 1 2;bell 1 3;bell 0 4;bell 2 5";
        SleepWaves waves = Check.told(bells, "sleep company=0;wake 1=1", "sleep company=1");
        waves.tick(0, 1);
        why(waves, 0, 3, 0, 3);
        waves.tick(0, 1);
        why(waves, 0, 6, 1, 1);
        waves.tick(0, 1);
        why(waves, 0, 3, 2, 4);
        waves.tick(0, 1);
        why(waves, 0, 6, 3, -1);
        waves.tick(0, 1);
        why(waves, 0, 3, 4, -1);
    }

    private static void elseByNone() {
        CHECK.sentence(WHY, BY_WHAT);
        SleepWaves waves = Check.told("company 1 0 0 0;bell 0 1;bell 1 1", NOTHING);
        waves.lie(0, true);
        why(waves, 0, 1, 0, -1);
        waves.feast(1);
        waves.tick(0, 1);
        why(waves, 0, 5, 0, -1);
        waves.lie(0, true);
        waves.drum();
        why(waves, 0, 2, 1, -1);
    }

    private static void theFirstDutyOrWhoSnored() {
        CHECK.sentence(WHY, BY_WHAT);
        SleepWaves waves = Check.told("company 1 0 0 0;company 1 1 1 100;company 1 1 2 100;bell 0 1;duty 1 0 9;duty 0 1 9;"
            + "duty 0 0 2;duty 0 0 9", NOTHING);
        waves.lie(0, true);
        waves.tick(0, 1);
        why(waves, 0, 4, 0, 2);
        waves.lie(0, true);
        waves.tick(0, 1);
        why(waves, 0, 4, 1, 1);
        SleepWaves snore = Check.told("company 1 0 0 0;company 1 0 1 100;company 1 0 2 0;company 1 0 3 100;bell 0 1",
            "sleep 1=1");
        snore.tick(0, 1);
        why(snore, 2, 7, 0, 1);
        why(snore, 0, 7, 0, 3);
        why(snore, 1, 3, 0, 0);
    }

    public static void main(String[] args) {
        oneToNinetySixQuarters();
        withoutALawNothingHappens();
        notAbove9999();
        upTo9999();
        theDayBeginsAgain();
        theLastDayIs104();
        upAtFirst();
        tiredWithinItsBounds();
        longIsNoughtWhenThatChanges();
        longStaysWhenThatDoesNotChange();
        long999AtMost();
        menUpAreOfThoseUp();
        companyWithoutThese();
        aDutyNowKeepsUp();
        aFeastKeepsUp();
        oneOfABedSleeps();
        byTheirNumbers();
        withoutATestNoneLiesDown();
        warmForLessThanFourQuarters();
        nothingIsWarmAtFirst();
        anotherOneOfThatBed();
        warmHoweverItGotUp();
        warmMenAreCountedTogether();
        whoLayDownInOneStays();
        whatWakes();
        eachThatGetsUpCountsForTheNext();
        theNextOtherOneOfItsHall();
        whoIsUpIsPassedBy();
        asItIsThen();
        belowItsSnore();
        everySleeperDraws();
        theDraw();
        tiredAndLongOfEach();
        failsBelowTheWatch();
        theFirstTimeIsKept();
        theLogIsOf192();
        aBedMustBeFree();
        byHandAtADutyOrFeast();
        lieFalseAndNothingHappens();
        tiresNoughtTo999();
        theDrumWakesAll();
        theDrumLeavesThoseUp();
        feastNoughtTo96();
        aFeastIsOnWhileNowIsBelowItsEnd();
        aFeastInPlaceOfOne();
        aFeastBehind9999();
        seedsFromNought();
        whyWithoutThese();
        asAtFirst();
        whyByEach();
        dutyAheadOfFeastAheadOfTest();
        whatDoesNotChangeKeepsItsReason();
        theFirstBellOfThatQuarter();
        elseByNone();
        theFirstDutyOrWhoSnored();
        CHECK.end();
    }
}
