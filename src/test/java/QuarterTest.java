/** Promises 6 to 11, 23 and 29: quarters, what is done by hand, why a company is as it is, the draws. */
public final class QuarterTest {
    private static final Check CHECK = new Check("quarters");

    private static void company(SleepWaves waves, int company, int asleep, int tired, int stayed) {
        CHECK.due("company(" + company + ", 0)", asleep, waves.company(company, 0));
        CHECK.due("company(" + company + ", 1)", tired, waves.company(company, 1));
        CHECK.due("company(" + company + ", 2)", stayed, waves.company(company, 2));
    }

    private static void why(SleepWaves waves, int company, int which, int now, int by) {
        CHECK.due("why(" + company + ", 0)", which, waves.why(company, 0));
        CHECK.due("why(" + company + ", 1)", now, waves.why(company, 1));
        CHECK.due("why(" + company + ", 2)", by, waves.why(company, 2));
    }

    private static void wrongOnes() {
        SleepWaves waves = Check.told("company 10 0 0 0;company 20 0 1 0", "sleep now=0");
        CHECK.due("tick(-1, 1)", -1, waves.tick(-1, 1));
        CHECK.due("tick(1, 1)", -1, waves.tick(1, 1));
        CHECK.due("tick(0, 0)", -1, waves.tick(0, 0));
        CHECK.due("tick(0, -1)", -1, waves.tick(0, -1));
        CHECK.due("tick(0, 97)", -1, waves.tick(0, 97));
        CHECK.due("tick(0, least)", -1, waves.tick(0, Integer.MIN_VALUE));
        CHECK.due("NOW stays", 0, waves.count(4));
        for (int wrong : new int[] {-1, 2, 12, Integer.MAX_VALUE, Integer.MIN_VALUE}) {
            CHECK.due("company", -1, waves.company(wrong, 0));
            CHECK.due("lie", false, waves.lie(wrong, true));
            CHECK.due("lie", false, waves.lie(wrong, false));
            CHECK.due("tires", -1, waves.tires(wrong, 1));
            CHECK.due("why", -2, waves.why(wrong, 0));
        }
        CHECK.due("company(0, -1)", -1, waves.company(0, -1));
        CHECK.due("company(0, 8)", -1, waves.company(0, 8));
        CHECK.due("why(0, -1)", -2, waves.why(0, -1));
        CHECK.due("why(0, 3)", -2, waves.why(0, 3));
        CHECK.due("tick(0, 96)", 96, waves.tick(0, 96));
        CHECK.due("tick(0, 1)", 97, waves.tick(0, 1));
    }

    /** Bells at the second quarter, a duty at the third, waking behind three long ones. */
    private static void bellsAndDuties() {
        SleepWaves waves = Check.told(
            "company 10 0 0 0;company 20 0 1 0;bell 1 3;bell 1 5;duty 0 9 9;duty 1 2 2;duty 1 0 3;watch 25",
            "sleep bell=3;wake long>=3", "sleep bell=5");
        SleepWaves other = Check.told("company 10 0 0 0;bell 1 3;bell 1 5", "sleep bell=5");
        other.tick(0, 2);
        CHECK.due("the second bell is not heard", 0, other.company(0, 0));
        waves.tick(0, 1);
        company(waves, 0, 0, 1, 1);
        CHECK.due("a duty now", 1, waves.company(1, 7));
        CHECK.due("none now", 0, waves.company(0, 7));
        waves.lie(1, true);
        waves.tick(0, 1);
        company(waves, 0, 1, 0, 1);
        why(waves, 0, 3, 1, 0);
        company(waves, 1, 0, 2, 1);
        why(waves, 1, 4, 1, 2);
        CHECK.due("FAILS", 1, waves.count(6));
        CHECK.due("first", 1, waves.count(7));
        waves.lie(1, true);
        waves.tick(0, 1);
        company(waves, 0, 1, 0, 2);
        company(waves, 1, 0, 3, 1);
        why(waves, 1, 4, 2, 1);
        waves.tick(0, 1);
        company(waves, 0, 1, 0, 3);
        CHECK.due("the last quarter of the duty is over", 0, waves.company(1, 7));
        CHECK.due("FAILS", 3, waves.count(6));
        waves.tick(0, 1);
        company(waves, 0, 0, 1, 1);
        why(waves, 0, 6, 4, -1);
        CHECK.due("FAILS", 3, waves.count(6));
        CHECK.due("first", 1, waves.count(7));
        CHECK.due("MEN UP", 30, waves.count(5));
    }

    private static void dutyKeepsUp() {
        SleepWaves waves = Check.told("company 10 0 0 0;duty 0 1 2", "sleep 1=1");
        waves.tick(0, 1);
        CHECK.due("ahead of the duty", 1, waves.company(0, 0));
        waves.tick(0, 1);
        CHECK.due("duty wakes", 0, waves.company(0, 0));
        waves.tick(0, 1);
        CHECK.due("duty keeps up", 0, waves.company(0, 0));
        waves.tick(0, 1);
        CHECK.due("behind the duty", 1, waves.company(0, 0));
        SleepWaves rung = Check.told("company 10 0 0 0;bell 4 4;bell 5 5", "sleep bell=4;wake bell=5");
        rung.tick(0, 5);
        why(rung, 0, 3, 4, 0);
        rung.tick(0, 1);
        why(rung, 0, 6, 5, 1);
    }

    /** Who lay down in (1) does not get up in (2); who gets up in (2) does not lie down in (1). */
    private static void orderOfSteps() {
        SleepWaves waves = Check.told("company 10 0 0 0", "sleep 1=1;wake 1=1");
        for (int i = 1; i <= 4; i++) {
            waves.tick(0, 1);
            CHECK.due("quarter " + i, i % 2, waves.company(0, 0));
        }
        // MEN UP as it is then: each that lies down is missed by the next one
        SleepWaves three = Check.told("company 10 0 0 0;company 10 0 1 0;company 10 0 2 0", "sleep up>10;wake up<30");
        three.tick(0, 1);
        CHECK.due("two lie down", 4, three.log(1));
        three.tick(0, 1);
        CHECK.due("they get up", 7, three.log(1));
        SleepWaves pair = Check.told("company 10 0 0 0;company 10 0 1 0", "sleep now=0;wake up<10");
        pair.tick(0, 2);
        CHECK.due("the first one up lets the second sleep", 1, pair.log(1));
    }

    private static void beds() {
        SleepWaves waves = Check.told("company 10 0 0 0;company 20 1 0 0;company 5 2 1 0", "sleep 1=1");
        waves.tick(0, 1);
        CHECK.due("one of a bed", 2, waves.log(1));
        CHECK.due("lie where it is not free", false, waves.lie(1, true));
        CHECK.due("get up where one is up", false, waves.lie(1, false));
        CHECK.due("lie where one lies", false, waves.lie(0, true));
        CHECK.due("get up", true, waves.lie(0, false));
        why(waves, 0, 1, 1, -1);
        company(waves, 0, 0, 0, 0);
        CHECK.due("lie", true, waves.lie(1, true));
        why(waves, 1, 1, 1, -1);
        company(waves, 1, 1, 1, 0);
        CHECK.due("MEN UP", 10, waves.count(5));
        CHECK.due("not WARM by hand", 0, waves.count(8));
    }

    private static void warmBeds() {
        for (int at = 0; at < 6; at++) {
            SleepWaves waves = Check.told("company 10 0 0 0;company 20 0 0 0;company 5 0 1 0",
                "sleep company>0 and now=" + at);
            waves.lie(0, true);
            waves.lie(0, false);
            waves.tick(0, 6);
            CHECK.due("WARM men at " + at, at < 4 ? 20 : 0, waves.count(8));
        }
        SleepWaves own = Check.told("company 10 0 0 0;company 20 0 0 0", "sleep now<3 and company=0;wake long>0");
        own.tick(0, 3);
        CHECK.due("its own warmth does not count", 0, own.count(8));
        SleepWaves risen = Check.told("company 10 0 0 0;company 20 0 0 0",
            "sleep now=0 and company=0;wake now=1;sleep now>1 and company=1");
        risen.tick(0, 3);
        CHECK.due("WARM by law", 20, risen.count(8));
        risen.tick(0, 1);
        CHECK.due("counted once", 20, risen.count(8));
        SleepWaves drummed = Check.told("company 10 0 0 0;company 20 0 0 0", "sleep company=1 and now<3;wake 1=1");
        drummed.lie(0, true);
        CHECK.due("drum()", 1, drummed.drum());
        drummed.tick(0, 3);
        CHECK.due("WARM twice", 40, drummed.count(8));
    }

    private static void tiredAndLong() {
        SleepWaves waves = Check.told("company 10 0 0 0;company 10 0 1 0", "sleep company=0");
        CHECK.due("tires(0, 5)", 0, waves.tires(0, 5));
        CHECK.due("tires(0, 999)", 5, waves.tires(0, 999));
        CHECK.due("tires(0, 1000)", -1, waves.tires(0, 1000));
        CHECK.due("tires(0, -1)", -1, waves.tires(0, -1));
        CHECK.due("tires(0, 4)", 999, waves.tires(0, 4));
        CHECK.due("tires(1, 998)", 0, waves.tires(1, 998));
        waves.tick(0, 1);
        company(waves, 0, 1, 2, 1);
        company(waves, 1, 0, 999, 1);
        waves.tick(0, 1);
        company(waves, 0, 1, 0, 2);
        company(waves, 1, 0, 999, 2);
        waves.tires(0, 1);
        waves.tick(0, 1);
        company(waves, 0, 1, 0, 3);
        for (int i = 0; i < 11; i++) {
            waves.tick(0, 96);
        }
        company(waves, 0, 1, 0, 999);
        company(waves, 1, 0, 999, 999);
        CHECK.due("TIRED stays by hand", true, waves.lie(1, true));
        company(waves, 1, 1, 999, 0);
    }

    private static void lastNow() {
        SleepWaves waves = Check.told("company 10 0 0 0", "sleep day=104 and now=14");
        for (int i = 1; i <= 104; i++) {
            CHECK.due("tick " + i, 96 * i, waves.tick(0, 96));
        }
        CHECK.due("tick(0, 16)", -1, waves.tick(0, 16));
        CHECK.due("NOW stays", 9984, waves.count(4));
        CHECK.due("tick(0, 15)", 9999, waves.tick(0, 15));
        why(waves, 0, 3, 9998, -1);
        CHECK.due("tick(0, 1)", -1, waves.tick(0, 1));
        CHECK.due("feast(96)", 10095, waves.feast(96));
        CHECK.due("ahead goes on", 10, waves.ahead(0, 192, 0));
        CHECK.due("997 at NOW 9999", 997, waves.company(0, 1));
        CHECK.due("TIRED ahead", 998, waves.ahead(0, 1, 3));
    }

    private static void drumAndFeast() {
        SleepWaves waves = Check.told("company 10 0 0 0;company 20 0 1 0;company 30 0 2 0;duty 2 1 1", "sleep 1=1");
        CHECK.due("drum of none", 0, waves.drum());
        waves.tick(0, 1);
        CHECK.due("drum of three", 3, waves.drum());
        why(waves, 1, 2, 1, -1);
        company(waves, 1, 0, 0, 0);
        CHECK.due("MEN UP", 60, waves.count(5));
        CHECK.due("drum again", 0, waves.drum());
        waves.lie(1, true);
        waves.lie(2, true);
        CHECK.due("feast(-1)", -1, waves.feast(-1));
        CHECK.due("feast(97)", -1, waves.feast(97));
        CHECK.due("no FEAST", 0, waves.count(9));
        CHECK.due("feast(2)", 3, waves.feast(2));
        waves.tick(0, 1);
        why(waves, 1, 5, 1, -1);
        why(waves, 2, 4, 1, 0);
        CHECK.due("none lies down", 7, waves.log(1));
        waves.tick(0, 1);
        CHECK.due("none lies down", 7, waves.log(1));
        waves.tick(0, 1);
        CHECK.due("the FEAST is over", 0, waves.log(1));
        CHECK.due("its end stays", 3, waves.count(9));
        CHECK.due("feast(96)", 100, waves.feast(96));
        CHECK.due("feast(1) in place of it", 5, waves.feast(1));
        waves.tick(0, 2);
        CHECK.due("one quarter", 7, waves.log(2));
        CHECK.due("and no more", 0, waves.log(1));
        CHECK.due("feast(0)", 6, waves.feast(0));
        waves.tick(0, 1);
        CHECK.due("no quarter", 0, waves.log(1));
        CHECK.due("by hand at a FEAST", 13, waves.feast(6));
        waves.drum();
        CHECK.due("lie at a FEAST", true, waves.lie(0, true));
    }

    private static int next(int x) {
        return (int) ((x * 1103515245L + 12345L) & 0x7fffffffL);
    }

    private static void seeds() {
        SleepWaves waves = new SleepWaves();
        CHECK.due("seed(5)", 0, waves.seed(5));
        CHECK.due("seed(-1)", -1, waves.seed(-1));
        CHECK.due("seed(least)", -1, waves.seed(Integer.MIN_VALUE));
        CHECK.due("seed(greatest)", 5, waves.seed(Integer.MAX_VALUE));
        CHECK.due("count(11)", Integer.MAX_VALUE, waves.count(11));
        CHECK.due("seed(0)", Integer.MAX_VALUE, waves.seed(0));
    }

    private static void whoSnores() {
        SleepWaves waves = Check.told(
            "company 1 0 0 100;company 1 0 1 100;company 1 0 2 100;company 1 1 3 100;company 1 2 4 0", "sleep now=0");
        waves.seed(77);
        waves.tick(0, 1);
        // 0 wakes 1, which draws no more; 2 wakes 0 from the begin; 3 is alone in its hall
        CHECK.due("log(1)", 3, waves.log(1));
        why(waves, 1, 7, 0, 0);
        why(waves, 0, 7, 0, 2);
        why(waves, 2, 3, 0, -1);
        company(waves, 1, 0, 1, 1);
        CHECK.due("four draws", next(next(next(next(77)))), waves.count(11));
        waves.tick(0, 1);
        CHECK.due("three more", next(next(next(next(next(next(next(77))))))), waves.count(11));
    }

    private static void howLoud() {
        for (int x = 0; x < 40; x++) {
            int seed = x * 50123457;
            int drawn = next(seed) / 65536 % 100;
            for (int snore = drawn; snore <= drawn + 1 && snore <= 100; snore++) {
                SleepWaves waves = Check.told("company 1 0 0 " + snore + ";company 1 0 1 0", "sleep now=0");
                waves.seed(seed);
                waves.tick(0, 1);
                CHECK.due("snore " + snore + " with draw " + drawn, snore > drawn ? 2 : 0, waves.log(1));
                int draws = snore > drawn ? next(seed) : next(next(seed));
                CHECK.due("x", draws, waves.count(11));
            }
        }
    }

    private static void noCompanies() {
        SleepWaves waves = Check.told("watch 1", "sleep 1=1");
        CHECK.due("tick(0, 3)", 3, waves.tick(0, 3));
        CHECK.due("FAILS", 3, waves.count(6));
        CHECK.due("first", 0, waves.count(7));
        CHECK.due("log(1)", 0, waves.log(1));
        CHECK.due("just(0, 0)", 3, waves.just(0, 0));
        CHECK.due("fair", -1, waves.fair(0, 1, 0));
        CHECK.due("ahead", 2, waves.ahead(0, 2, 1));
        CHECK.due("swap", -2, waves.swap(0, 2, 1));
        CHECK.due("turned", 1, waves.turned(0, 0, 2, 1));
        CHECK.due("mutiny", -1, waves.mutiny(0, 0, 0, 0));
    }

    public static void main(String[] args) {
        wrongOnes();
        bellsAndDuties();
        dutyKeepsUp();
        orderOfSteps();
        beds();
        warmBeds();
        tiredAndLong();
        lastNow();
        drumAndFeast();
        seeds();
        whoSnores();
        howLoud();
        noCompanies();
        CHECK.end();
    }
}
