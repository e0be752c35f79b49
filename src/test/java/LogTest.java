/** Promises 20 to 22, 28 and 30 to 32: the log, the counts, images. */
public final class LogTest {
    private static final Check CHECK = new Check("log and images");

    private static SleepWaves fiveQuarters() {
        SleepWaves waves = Check.told("company 10 0 0 0;company 20 0 1 0;bell 1 3;duty 1 2 2;watch 25",
            "sleep bell=3;wake long>=3");
        waves.tick(0, 5);
        return waves;
    }

    private static void shortLog() {
        SleepWaves waves = fiveQuarters();
        int[] ups = {3, 2, 2, 0, 3};
        for (int ago = 1; ago <= 5; ago++) {
            CHECK.due("log(" + ago + ")", ups[ago - 1], waves.log(ago));
        }
        CHECK.due("log(0)", -1, waves.log(0));
        CHECK.due("log(6)", -1, waves.log(6));
        CHECK.due("log(-1)", -1, waves.log(-1));
        CHECK.due("log(least)", -1, waves.log(Integer.MIN_VALUE));
        CHECK.due("both(0, 1)", 2, waves.both(0, 1));
        CHECK.due("both(1, 0)", 2, waves.both(1, 0));
        CHECK.due("both(0, 0)", -1, waves.both(0, 0));
        CHECK.due("both(0, 2)", -1, waves.both(0, 2));
        CHECK.due("both(-1, 0)", -1, waves.both(-1, 0));
        CHECK.due("run(0)", 1, waves.run(0));
        CHECK.due("run(1)", 3, waves.run(1));
        CHECK.due("run(2)", -1, waves.run(2));
        CHECK.due("run(-1)", -1, waves.run(-1));
        CHECK.due("just(3, 0)", 2, waves.just(3, 0));
        CHECK.due("just(3, 1)", 1, waves.just(3, 1));
        CHECK.due("just(2, 0)", 2, waves.just(2, 0));
        CHECK.due("just(2, 1)", 2, waves.just(2, 1));
        CHECK.due("just(0, 0)", 1, waves.just(0, 0));
        CHECK.due("just(0, 1)", 4, waves.just(0, 1));
        CHECK.due("just(1, 0)", 0, waves.just(1, 0));
        CHECK.due("just(1, 1)", -2, waves.just(1, 1));
        CHECK.due("just(4, 0)", -1, waves.just(4, 0));
        CHECK.due("just(-1, 0)", -1, waves.just(-1, 0));
        CHECK.due("just(3, 2)", -1, waves.just(3, 2));
        CHECK.due("just(3, -1)", -1, waves.just(3, -1));
    }

    /** The log goes round: company 0 sleeps in the first 100 quarters, company 1 in the last 50 of 300. */
    private static void longLog() {
        SleepWaves waves = Check.told("company 1 0 0 0;company 1 0 1 0",
            "sleep company=0 and day=0;wake company=0 and day=1 and now=4;sleep company=1 and day=2 and now>=58");
        waves.tick(0, 96);
        CHECK.due("count(10)", 96, waves.count(10));
        waves.tick(0, 96);
        CHECK.due("count(10)", 192, waves.count(10));
        CHECK.due("log(192)", 2, waves.log(192));
        CHECK.due("run(0)", 92, waves.run(0));
        CHECK.due("just(2, 0)", 100, waves.just(2, 0));
        waves.tick(0, 96);
        waves.tick(0, 12);
        CHECK.due("count(10)", 192, waves.count(10));
        CHECK.due("log(193)", -1, waves.log(193));
        CHECK.due("log(192)", 3, waves.log(192));
        CHECK.due("log(1)", 1, waves.log(1));
        CHECK.due("log(50)", 1, waves.log(50));
        CHECK.due("log(51)", 3, waves.log(51));
        CHECK.due("run(0)", 192, waves.run(0));
        CHECK.due("run(1)", 142, waves.run(1));
        CHECK.due("both(0, 1)", 142, waves.both(0, 1));
        CHECK.due("just(2, 1)", -2, waves.just(2, 1));
        CHECK.due("just(3, 1)", 51, waves.just(3, 1));
        CHECK.due("just(1, 0)", 50, waves.just(1, 0));
    }

    private static void counts() {
        SleepWaves waves = Check.told("company 10 0 0 0;company 20 0 0 9;bell 1 3;bell 1 4;bell 3 1;duty 1 9 9;watch 25",
            "sleep now=company;wake now=1", "wake 1=0");
        waves.seed(99);
        waves.tick(0, 3);
        waves.feast(4);
        waves.feed(0, 0, 0, 0, 0);
        // company 0 sleeps at 0 and gets up at 1, behind its bed was asked for by company 1
        int[] due = {2, 3, 1, 2, 3, 30, 1, 0, 0, 7, 3, 0, 20, 25};
        for (int what = 0; what < due.length; what++) {
            if (what != 11) {
                CHECK.due("count(" + what + ")", due[what], waves.count(what));
            }
        }
        CHECK.due("one draw", (99 * 1103515245L + 12345L) % 2147483648L, waves.count(11));
        for (int wrong : new int[] {-1, 14, Integer.MAX_VALUE, Integer.MIN_VALUE}) {
            CHECK.due("count(" + wrong + ")", -1, waves.count(wrong));
        }
    }

    private static void imagesKeepAll() {
        SleepWaves waves = fiveQuarters();
        waves.feast(7);
        waves.seed(12);
        waves.tires(0, 300);
        waves.lie(1, true);
        CHECK.due("image(0)", 5, waves.image(0));
        Check.barracks(waves, "company 1 0 0 0;company 1 0 0 0;company 3 0 1 0;bell 2 2;bell 3 3;duty 2 3 3");
        Check.law(waves, "sleep tired>0");
        waves.tick(1, 9);
        CHECK.due("image(3)", 9, waves.image(3));
        waves.feed(0, 0, 0, 0, 0);
        CHECK.due("back(0)", 5, waves.back(0));
        int[] due = {2, 1, 1, 2, 5, 10, 3, 1, 0, 12, 5, 12, 20, 25};
        for (int what = 0; what < due.length; what++) {
            CHECK.due("count(" + what + ")", due[what], waves.count(what));
        }
        int[][] of = {{0, 300, 1, 10, 0, 0, 0, 0}, {1, 3, 0, 20, 0, 1, 0, 0}};
        for (int company = 0; company < 2; company++) {
            for (int what = 0; what < 8; what++) {
                CHECK.due("company(" + company + ", " + what + ")", of[company][what], waves.company(company, what));
            }
        }
        CHECK.due("why(0, 0)", 6, waves.why(0, 0));
        CHECK.due("why(0, 1)", 4, waves.why(0, 1));
        CHECK.due("why(1, 0)", 1, waves.why(1, 0));
        CHECK.due("why(1, 1)", 5, waves.why(1, 1));
        CHECK.due("log(4)", 0, waves.log(4));
        CHECK.due("log(6)", -1, waves.log(6));
        waves.tick(0, 1);
        CHECK.due("the bell and the FEAST go on", 5, waves.why(1, 0));
        CHECK.due("back(3)", 9, waves.back(3));
        CHECK.due("count(0)", 3, waves.count(0));
        CHECK.due("back(0) again", 5, waves.back(0));
        CHECK.due("it was not touched", 5, waves.count(10));
        CHECK.due("asleep", 1, waves.company(1, 0));
    }

    private static void imagesKeepWarmth() {
        SleepWaves waves = Check.told("company 10 0 0 0;company 20 0 0 0", "sleep company=1");
        waves.lie(0, true);
        waves.lie(0, false);
        waves.image(1);
        waves.tick(0, 5);
        CHECK.due("WARM", 20, waves.count(8));
        waves.back(1);
        CHECK.due("not yet", 0, waves.count(8));
        CHECK.due("WARM ahead", 20, waves.ahead(0, 1, 4));
        SleepWaves cold = Check.told("company 10 0 0 0;company 20 0 0 0", "sleep company=1");
        cold.image(1);
        cold.lie(0, true);
        cold.lie(0, false);
        cold.back(1);
        CHECK.due("cold again", 0, cold.ahead(0, 1, 4));
    }

    private static void wrongImages() {
        SleepWaves waves = new SleepWaves();
        for (int wrong : new int[] {-1, 4, Integer.MAX_VALUE, Integer.MIN_VALUE}) {
            CHECK.due("image(" + wrong + ")", -1, waves.image(wrong));
            CHECK.due("back(" + wrong + ")", -1, waves.back(wrong));
        }
        CHECK.due("image(2) of nothing", 0, waves.image(2));
        CHECK.due("back(1), never made", -1, waves.back(1));
        Check.barracks(waves, "company 1 0 0 0");
        Check.law(waves, "sleep 1=1");
        waves.tick(0, 2);
        CHECK.due("back(1), never made", -1, waves.back(1));
        CHECK.due("nothing happened", 2, waves.count(4));
        CHECK.due("back(2) to nothing", 0, waves.back(2));
        CHECK.due("no companies", 0, waves.count(0));
        CHECK.due("the law stays", 1, waves.count(3));
        CHECK.due("never failed", -2, waves.count(7));
    }

    public static void main(String[] args) {
        shortLog();
        longLog();
        counts();
        imagesKeepAll();
        imagesKeepWarmth();
        wrongImages();
        CHECK.end();
    }
}
