/** Promises 12 to 14, 19 and 24 to 27: what would come, and nothing changes by it. */
public final class ForesightTest {
    private static final Check CHECK = new Check("foresight");
    private static final int NONE_FOUND = -2;
    private static final int[] FAR_OUT = {-1, 7, Integer.MAX_VALUE, Integer.MIN_VALUE};

    /** Ups behind the first five quarters by law 0: both, none, 1, 1, both. */
    private static SleepWaves five() {
        return Check.told("company 10 0 0 0;company 20 0 1 0;bell 1 3;bell 1 5;duty 1 2 2;watch 25",
            "sleep bell=3;wake long>=3", "sleep now<0", "sleep now<0");
    }

    private static void aheads() {
        SleepWaves waves = five();
        int[] none = {30, 0, -2, 0, 0};
        int[] one = {30, 0, -2, 2, 0};
        int[] three = {0, 2, 1, 1, 0};
        int[] all = {0, 3, 1, 4, 0};
        for (int what = 0; what < 5; what++) {
            CHECK.due("ahead(0, 0, " + what + ")", none[what], waves.ahead(0, 0, what));
            CHECK.due("ahead(0, 1, " + what + ")", one[what], waves.ahead(0, 1, what));
            CHECK.due("ahead(0, 3, " + what + ")", three[what], waves.ahead(0, 3, what));
            CHECK.due("ahead(0, 5, " + what + ")", all[what], waves.ahead(0, 5, what));
        }
        waves.tick(0, 2);
        CHECK.due("all men though none is up", 30, waves.ahead(0, 0, 0));
        CHECK.due("the first one", 0, waves.ahead(0, 2, 2));
        CHECK.due("least of these only", 20, waves.ahead(0, 2, 0));
        CHECK.due("fails of these only", 2, waves.ahead(0, 3, 1));
        CHECK.due("as it was", 0, waves.log(1));
        CHECK.due("as it was", 2, waves.count(4));
        CHECK.due("as it was", 1, waves.count(6));
    }

    private static void warmAhead() {
        SleepWaves waves = Check.told("company 10 0 0 0;company 20 0 0 0",
            "sleep now<2 and company=0;wake now=1;sleep now>1 and company=1");
        CHECK.due("WARM ahead", 0, waves.ahead(0, 2, 4));
        CHECK.due("WARM ahead", 20, waves.ahead(0, 3, 4));
        waves.tick(0, 2);
        CHECK.due("WARM ahead", 20, waves.ahead(0, 1, 4));
        waves.tick(0, 1);
        CHECK.due("none in these", 0, waves.ahead(0, 4, 4));
        CHECK.due("draws go on from x", 0, waves.count(11) - waves.seed(waves.count(11)));
    }

    private static void strucks() {
        SleepWaves waves = five();
        int[] fails = {3, 3, 1, 2, 3};
        for (int at = 0; at < 5; at++) {
            CHECK.due("struck(0, " + at + ", 5, 1)", fails[at], waves.struck(0, at, 5, 1));
        }
        CHECK.due("struck least", 0, waves.struck(0, 2, 5, 0));
        CHECK.due("struck first", 1, waves.struck(0, 2, 5, 2));
        CHECK.due("struck TIRED", 6, waves.struck(0, 2, 5, 3));
        CHECK.due("struck WARM", 0, waves.struck(0, 2, 5, 4));
        CHECK.due("struck(0, 5, 5, 1)", -1, waves.struck(0, 5, 5, 1));
        CHECK.due("struck(0, 0, 0, 1)", -1, waves.struck(0, 0, 0, 1));
        CHECK.due("struck(0, -1, 5, 1)", -1, waves.struck(0, -1, 5, 1));
        CHECK.due("struck(0, 191, 192, 2)", 1, waves.struck(0, 191, 192, 2));
        CHECK.due("struck(0, 192, 193, 2)", -1, waves.struck(0, 192, 193, 2));
        waves.tick(0, 2);
        CHECK.due("struck at once", 0, waves.struck(0, 0, 3, 1));
        CHECK.due("none got up", 0, waves.log(1));
        CHECK.due("strike", 0, waves.strike(0, 3, 0));
        CHECK.due("strike", 0, waves.strike(0, 3, 1));
    }

    private static void strikes() {
        SleepWaves waves = five();
        CHECK.due("strike(0, 5, 0)", 2, waves.strike(0, 5, 0));
        CHECK.due("strike(0, 5, 1)", 1, waves.strike(0, 5, 1));
        CHECK.due("strike(0, 2, 0)", -2, waves.strike(0, 2, 0));
        CHECK.due("strike(0, 2, 1)", -2, waves.strike(0, 2, 1));
        CHECK.due("strike(0, 3, 0)", 2, waves.strike(0, 3, 0));
        CHECK.due("strike(0, 96, 0)", 2, waves.strike(0, 96, 0));
        CHECK.due("strike(0, 97, 0)", -1, waves.strike(0, 97, 0));
        CHECK.due("strike(0, 0, 0)", -1, waves.strike(0, 0, 0));
        CHECK.due("strike(0, 5, 2)", -1, waves.strike(0, 5, 2));
        CHECK.due("strike(1, 5, 0)", -2, waves.strike(1, 5, 0));
    }

    private static void harms() {
        SleepWaves waves = five();
        CHECK.due("harm(0, 5, 0)", 0, waves.harm(0, 5, 0));
        CHECK.due("harm(0, 5, 1)", 0, waves.harm(0, 5, 1));
        CHECK.due("harm(0, 1, 0)", -2, waves.harm(0, 1, 0));
        CHECK.due("harm(0, 1, 1)", -2, waves.harm(0, 1, 1));
        CHECK.due("harm(0, 192, 0)", 0, waves.harm(0, 192, 0));
        CHECK.due("harm(0, 193, 0)", -1, waves.harm(0, 193, 0));
        CHECK.due("harm(0, 0, 0)", -1, waves.harm(0, 0, 0));
        CHECK.due("harm(0, 5, 2)", -1, waves.harm(0, 5, 2));
        CHECK.due("harm(0, 5, -1)", -1, waves.harm(0, 5, -1));
        CHECK.due("the BELL rings still", 2, waves.count(1));
        // bell 1 keeps one asleep for two quarters, bells 0 and 2 for one
        SleepWaves more = Check.told("company 10 0 0 0;bell 1 1;bell 3 2;bell 7 1;watch 1",
            "sleep bell>0;wake now=2 or now=5 or now=8");
        CHECK.due("all", 4, more.ahead(0, 9, 1));
        CHECK.due("the worst", 1, more.harm(0, 9, 0));
        CHECK.due("without it", 2, more.harm(0, 9, 1));
        SleepWaves same = Check.told("company 10 0 0 0;bell 9 1;bell 1 1;bell 3 2;watch 1",
            "sleep bell>0;wake now=2 or now=4");
        CHECK.due("the least of several", 1, same.harm(0, 6, 0));
        CHECK.due("without it", 1, same.harm(0, 6, 1));
        SleepWaves shadow = Check.told("company 10 0 0 0;bell 1 4;bell 1 5;watch 1", "sleep bell=5");
        CHECK.due("a bell before another", -2, shadow.harm(0, 4, 0));
        CHECK.due("no bells", -2, Check.told("company 10 0 0 0;watch 1", "sleep 1=1").harm(0, 4, 1));
    }

    private static void turns() {
        SleepWaves waves = five();
        turned(waves, 1, 4, 0, 1, 3);
        turned(waves, 0, 2, 1, 1, 0);
        turned(waves, 3, 2, 0, 1, 1);
        CHECK.due("turned(0, 2, 5, 0)", -2, waves.turned(0, 2, 5, 0));
        CHECK.due("turned(0, 2, 5, 1)", -2, waves.turned(0, 2, 5, 1));
        CHECK.due("turned(0, 2, 5, 2)", -2, waves.turned(0, 2, 5, 2));
        for (int wrong : new int[] {4, 4096, -1, Integer.MAX_VALUE, Integer.MIN_VALUE}) {
            CHECK.due("turned(0, " + wrong + ", 5, 0)", -1, waves.turned(0, wrong, 5, 0));
        }
        CHECK.due("turned(0, 0, 0, 0)", -1, waves.turned(0, 0, 0, 0));
        CHECK.due("turned(0, 0, 97, 0)", -1, waves.turned(0, 0, 97, 0));
        CHECK.due("turned(0, 0, 5, 3)", -1, waves.turned(0, 0, 5, 3));
        CHECK.due("turned(0, 0, 5, -1)", -1, waves.turned(0, 0, 5, -1));
        CHECK.due("no FEAST came", 0, waves.count(9));
        // asleep in the first four but for what keeps it up, and asleep at the tenth if tired enough by then
        SleepWaves long3 = Check.told("company 10 0 0 0;watch 10", "sleep now<4 or tired>=8 and now=9;wake now=4");
        turned(long3, 1, 10, 1, 3, 2);
        CHECK.due("feast(2)", 2, long3.feast(2));
        turned(long3, 1, 10, 2, 2, 1);
        // with a FEAST of four on, the least alone keeps it on till the third quarter's end
        CHECK.due("feast(9)", 9, long3.feast(9));
        turned(long3, 1, 3, 0, 1, 2);
        CHECK.due("the end stays", 9, long3.count(9));
        SleepWaves last = Check.told("company 10 0 0 0", "sleep tired<16 or now>50");
        turned(last, 0, 17, 16, 1, 0);
        turned(Check.told("company 10 0 0 0", "sleep now=47"), 0, 60, 47, 1, 0);
        turned(Check.told("company 10 0 0 0", "sleep now=48"), 0, 60, 47, 2, 0);
        turned(Check.told("company 10 0 0 0", "sleep now=1"), 1, 1, NONE_FOUND, NONE_FOUND, NONE_FOUND);
        // only behind sixteen quarters of a FEAST it is too tired to lie down; seventeen are too many
        turned(Check.told("company 10 0 0 0", "sleep tired<16 and now<64"), 0, 70, 0, 16, 0);
        SleepWaves farther = Check.told("company 10 0 0 0", "sleep tired<17 and now<80");
        CHECK.due("farther", -2, farther.turned(0, 0, 90, 0));
    }

    private static void turned(SleepWaves waves, int asleep, int n, int b, int l, int fails) {
        String call = "turned(0, " + asleep + ", " + n + ", ";
        CHECK.due(call + "0)", b, waves.turned(0, asleep, n, 0));
        CHECK.due(call + "1)", l, waves.turned(0, asleep, n, 1));
        CHECK.due(call + "2)", fails, waves.turned(0, asleep, n, 2));
    }

    private static void fairs() {
        SleepWaves waves = five();
        CHECK.due("fair(0, 5, 0)", 0, waves.fair(0, 5, 0));
        CHECK.due("fair(0, 5, 1)", 1, waves.fair(0, 5, 1));
        CHECK.due("fair(0, 5, 2)", 2, waves.fair(0, 5, 2));
        CHECK.due("fair(0, 0, 0)", 0, waves.fair(0, 0, 0));
        CHECK.due("fair(0, 0, 1)", 0, waves.fair(0, 0, 1));
        CHECK.due("fair(0, 0, 2)", 0, waves.fair(0, 0, 2));
        CHECK.due("fair(0, 5, 3)", -1, waves.fair(0, 5, 3));
        CHECK.due("fair(0, 193, 0)", -1, waves.fair(0, 193, 0));
        CHECK.due("fair(0, -1, 0)", -1, waves.fair(0, -1, 0));
        SleepWaves several = Check.told("company 1 0 0 0;company 1 0 1 0;company 1 0 2 0;company 1 0 3 0;company 1 0 4 0",
            "sleep company=1 or company=2;sleep company=4 and now=1");
        CHECK.due("most, the least of several", 1, several.fair(0, 192, 0));
        CHECK.due("fewest, the least of several", 0, several.fair(0, 192, 1));
        CHECK.due("how many", 192, several.fair(0, 192, 2));
    }

    private static void bestLaws() {
        SleepWaves waves = five();
        CHECK.due("bestLaw(5)", 1, waves.bestLaw(5));
        CHECK.due("bestLaw(1)", 0, waves.bestLaw(1));
        CHECK.due("bestLaw(0)", 0, waves.bestLaw(0));
        CHECK.due("bestLaw(192)", 1, waves.bestLaw(192));
        CHECK.due("bestLaw(193)", -1, waves.bestLaw(193));
        CHECK.due("bestLaw(-1)", -1, waves.bestLaw(-1));
        SleepWaves none = Check.told("company 1 0 0 0");
        CHECK.due("no laws", -2, none.bestLaw(0));
        CHECK.due("no laws, wrong n", -1, none.bestLaw(193));
        SleepWaves rested = Check.told("company 10 0 0 0;company 10 0 1 0;watch 10", "sleep 1=1", "sleep 1=0",
            "sleep company=1", "sleep company=0");
        CHECK.due("as few fails, less TIRED, the first", 2, rested.bestLaw(3));
    }

    private static void swaps() {
        SleepWaves waves = Check.told("company 1 0 0 0;company 1 1 0 0;company 1 2 1 0;company 1 3 2 0;duty 2 0 95;duty 3 0 95",
            "sleep 1=1");
        CHECK.due("without", 9, waves.ahead(0, 3, 3));
        CHECK.due("swap(0, 3, 0)", 2, waves.swap(0, 3, 0));
        CHECK.due("swap(0, 3, 1)", 6, waves.swap(0, 3, 1));
        CHECK.due("the beds stay", 0, waves.company(0, 5));
        CHECK.due("the beds stay", 1, waves.company(2, 5));
        CHECK.due("swap(0, 3, 2)", -1, waves.swap(0, 3, 2));
        CHECK.due("swap(0, 3, -1)", -1, waves.swap(0, 3, -1));
        CHECK.due("swap(0, 0, 0)", -1, waves.swap(0, 0, 0));
        CHECK.due("swap(0, 192, 0)", 2, waves.swap(0, 192, 0));
        CHECK.due("swap(0, 193, 0)", -1, waves.swap(0, 193, 0));
        SleepWaves alone = Check.told("company 1 0 0 0;company 1 0 1 0", "sleep 1=1");
        CHECK.due("none is better", -2, alone.swap(0, 5, 0));
        CHECK.due("none is better", -2, alone.swap(0, 5, 1));
        // 0 and 1 asleep, 2 would lie in the bed of 1; with that of 0 it can, and 0 sleeps on beside 1
        SleepWaves beside = Check.told("company 1 0 0 0;company 1 0 1 0;company 1 0 1 0", "sleep 1=1");
        beside.lie(0, true);
        beside.lie(1, true);
        CHECK.due("two in one bed", 2, beside.swap(0, 2, 0));
        CHECK.due("two in one bed", 0, beside.swap(0, 2, 1));
        // the second of a bed alone may swap: 1 with 3 (12 + 3), which never sleeps
        SleepWaves later = Check.told("company 1 0 0 0;company 1 0 0 0;company 1 0 0 0;company 1 0 3 0",
            "sleep company<2 and now=company;sleep company=2 and now=1");
        CHECK.due("the greater counts", 3, later.swap(0, 2, 0));
    }

    private static void wrongLaws() {
        SleepWaves waves = five();
        for (int law : new int[] {-1, 3, 6, Integer.MAX_VALUE, Integer.MIN_VALUE}) {
            CHECK.due("ahead", -1, waves.ahead(law, 1, 0));
            CHECK.due("struck", -1, waves.struck(law, 0, 1, 0));
            CHECK.due("turned", -1, waves.turned(law, 0, 1, 0));
            CHECK.due("harm", -1, waves.harm(law, 1, 0));
            CHECK.due("fair", -1, waves.fair(law, 1, 0));
            CHECK.due("swap", -1, waves.swap(law, 1, 0));
            CHECK.due("strike", -1, waves.strike(law, 1, 0));
        }
        for (int far : FAR_OUT) {
            CHECK.due("ahead what", -1, waves.ahead(0, 1, far));
            CHECK.due("struck what", -1, waves.struck(0, 0, 1, far));
        }
        CHECK.due("ahead(0, -1, 0)", -1, waves.ahead(0, -1, 0));
        CHECK.due("ahead(0, 192, 1)", 6, waves.ahead(0, 192, 1));
        CHECK.due("ahead(0, 193, 1)", -1, waves.ahead(0, 193, 1));
    }

    private static void nothingChanges() {
        SleepWaves waves = Check.told("company 10 0 0 60;company 20 0 1 60;company 30 0 1 60;bell 2 1;watch 25",
            "sleep tired>2;wake tired=0");
        waves.tick(0, 5);
        waves.feast(1);
        int x = waves.count(11);
        waves.ahead(0, 50, 0);
        waves.struck(0, 3, 50, 0);
        waves.turned(0, 1, 50, 0);
        waves.mutiny(0, 0, 3, 50);
        waves.crest(0, 0, 40, 40, 0);
        waves.dream(0, 0, 50);
        waves.told(0, 0, 1, 50);
        waves.harm(0, 50, 0);
        waves.fair(0, 50, 0);
        waves.bestLaw(50);
        waves.swap(0, 50, 0);
        waves.strike(0, 50, 0);
        CHECK.due("x", x, waves.count(11));
        CHECK.due("NOW", 5, waves.count(4));
        CHECK.due("FEAST", 6, waves.count(9));
        CHECK.due("BELLS", 1, waves.count(1));
        CHECK.due("LOG", 5, waves.count(10));
        CHECK.due("bed", 1, waves.company(1, 5));
        SleepWaves twin = Check.told("company 10 0 0 60;company 20 0 1 60;company 30 0 1 60;bell 2 1;watch 25",
            "sleep tired>2;wake tired=0");
        twin.tick(0, 5);
        twin.feast(1);
        twin.tick(0, 40);
        int fails = twin.count(6) - waves.count(6);
        CHECK.due("as it comes", fails, waves.ahead(0, 40, 1));
        waves.tick(0, 40);
        for (int what = 0; what <= 13; what++) {
            CHECK.due("count(" + what + ")", twin.count(what), waves.count(what));
        }
        for (int company = 0; company < 3; company++) {
            for (int what = 0; what < 8; what++) {
                CHECK.due("company", twin.company(company, what), waves.company(company, what));
                CHECK.due("why", twin.why(company, what), waves.why(company, what));
            }
        }
    }

    public static void main(String[] args) {
        aheads();
        warmAhead();
        strucks();
        strikes();
        harms();
        turns();
        fairs();
        bestLaws();
        swaps();
        wrongLaws();
        nothingChanges();
        CHECK.end();
    }
}
