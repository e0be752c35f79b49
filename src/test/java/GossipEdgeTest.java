/** Promises 15 to 18: a test for each sentence that names an edge. */
public final class GossipEdgeTest {
    private static final Check CHECK = new Check("edges of gossip");
    private static final String MUTINY = "Promise 15: mutiny";
    private static final String CREST = "Promise 16: crest";
    private static final String DREAM = "Promise 17: dream";
    private static final String TOLD = "Promise 18: told";

    private static final String WHO_IS_WON = "Behind each QUARTER (b and later ones), COMPANIES that are of it already and "
        + "UP, by their numbers, win each the least COMPANY UP in the same HALL, or with the same BED, that is not of it "
        + "yet (those won ahead of it in this QUARTER are).";
    private static final String WHERE_IT_CRESTS = "How many MEN are of it behind n QUARTERS from its begin; "
        + "CREST: the b of 0 to s - 1 with the most such MEN, of several the least.";
    private static final String WHO_DREAMS = "Behind each QUARTER, in each HALL: if some COMPANY UP knows it, all COMPANIES "
        + "UP there do then; and (behind all HALLS) of two with one BED of whom one knows it, both do.";
    private static final String WHO_KNOWS_WHEN = "Who knows it behind n QUARTERS; when one knows it first (QUARTERS from now: "
        + "0 it does now, k behind the k-th).";

    private static final int[] NO_LAWS = {-1, 2, 6, Integer.MAX_VALUE, Integer.MIN_VALUE};
    private static final int[] BEYOND_96 = {-1, 97, 192, Integer.MAX_VALUE, Integer.MIN_VALUE};
    private static final String NOTHING = "wake 1=0";

    /** Five of one HALL, each with a BED of its own; their men tell who is of it. */
    private static SleepWaves hall(String... laws) {
        return Check.told("company 1 0 0 0;company 2 0 1 0;company 4 0 2 0;company 8 0 3 0;company 16 0 4 0", laws);
    }

    // ---- mutiny ----

    private static void itIsOfItFromThenOn() {
        CHECK.sentence(MUTINY, "MUTINY in a COMPANY, b QUARTERS from now: it is of it from then on.");
        SleepWaves waves = hall(NOTHING);
        for (int i = 0; i < 5; i++) {
            for (int b : new int[] {0, 1, 96}) {
                CHECK.due("of " + i + " at once, b " + b, 1 << i, waves.mutiny(0, i, b, 0));
            }
        }
        waves.lie(3, true);
        CHECK.due("ASLEEP it is of it, too", 8, waves.mutiny(0, 3, 0, 0));
        CHECK.due("and stays so", 8, waves.mutiny(0, 3, 0, 96));
    }

    private static void fromQuarterBOn() {
        CHECK.sentence(MUTINY, WHO_IS_WON);
        // 1 is up at 2 alone
        SleepWaves waves = Check.told("company 1 0 0 0;company 2 0 1 0", "wake now=2;sleep now=3 and company=1");
        waves.lie(1, true);
        int[][] due = {{1, 1, 1, 3, 3}, {1, 1, 3, 3, 3}, {1, 3, 3, 3, 3}, {1, 1, 1, 1, 1}, {1, 1, 1, 1, 1}};
        for (int b = 0; b < 5; b++) {
            for (int n = 0; n < 5; n++) {
                CHECK.due("b " + b + ", n " + n, due[b][n], waves.mutiny(0, 0, b, n));
            }
        }
    }

    private static void eachWinsOne() {
        CHECK.sentence(MUTINY, WHO_IS_WON);
        SleepWaves waves = hall(NOTHING);
        // who was won in this QUARTER is not won again, and wins none yet
        int[] fromFirst = {1, 3, 15, 31, 31};
        int[] fromFourth = {8, 9, 15, 31, 31};
        int[] fromLast = {16, 17, 23, 31, 31};
        for (int n = 0; n < 5; n++) {
            CHECK.due("from 0, n " + n, fromFirst[n], waves.mutiny(0, 0, 0, n));
            CHECK.due("from 3, n " + n, fromFourth[n], waves.mutiny(0, 3, 0, n));
            CHECK.due("from 4, n " + n, fromLast[n], waves.mutiny(0, 4, 0, n));
        }
    }

    private static void byTheirNumbers() {
        CHECK.sentence(MUTINY, WHO_IS_WON);
        // 0 and 2 lie in one BED, 2 and 3 in one HALL: 0 takes 1, the least of its HALL, and 2 then takes 3
        SleepWaves waves = Check.told("company 1 0 0 0;company 2 0 5 0;company 4 1 0 0;company 8 1 6 0;company 16 0 7 0",
            NOTHING);
        int[] fromThird = {4, 5, 15, 31};
        for (int n = 0; n < fromThird.length; n++) {
            CHECK.due("from 2, n " + n, fromThird[n], waves.mutiny(0, 2, 0, n));
        }
        CHECK.due("from 0, whose HALL holds the lesser", 3, waves.mutiny(0, 0, 0, 1));
        // both of 0 and 1 could win 2: the lesser does, and the other wins 3
        SleepWaves two = hall(NOTHING);
        two.lie(4, true);
        CHECK.due("from 0, n 2", 15, two.mutiny(0, 0, 0, 2));
        CHECK.due("from 0, n 9", 15, two.mutiny(0, 0, 0, 9));
    }

    private static void sameHallOrSameBed() {
        CHECK.sentence(MUTINY, WHO_IS_WON);
        CHECK.due("neither", 1, Check.told("company 1 0 0 0;company 2 1 1 0", NOTHING).mutiny(0, 0, 0, 96));
        CHECK.due("the HALL", 3, Check.told("company 1 3 0 0;company 2 3 1 0", NOTHING).mutiny(0, 0, 0, 1));
        CHECK.due("the BED", 3, Check.told("company 1 0 11 0;company 2 1 11 0", NOTHING).mutiny(0, 0, 0, 1));
        CHECK.due("both", 3, Check.told("company 1 0 0 0;company 2 0 0 0", NOTHING).mutiny(0, 0, 0, 1));
        CHECK.due("alone", 1, Check.told("company 1 0 0 0", NOTHING).mutiny(0, 0, 0, 96));
    }

    private static void bothMustBeUp() {
        CHECK.sentence(MUTINY, WHO_IS_WON);
        SleepWaves won = hall(NOTHING);
        won.lie(1, true);
        CHECK.due("who sleeps is passed by", 1 + 4, won.mutiny(0, 0, 0, 1));
        CHECK.due("who sleeps is never won", 29, won.mutiny(0, 0, 0, 96));
        CHECK.due("who sleeps wins none", 2, won.mutiny(0, 1, 0, 96));
        SleepWaves bed = Check.told("company 1 0 0 0;company 2 1 0 0", NOTHING);
        bed.lie(1, true);
        CHECK.due("nor in the same BED", 1, bed.mutiny(0, 0, 0, 96));
        // UP behind the QUARTER counts, not ahead of it
        SleepWaves wakes = Check.told("company 1 0 0 0;company 2 0 1 0", "wake 1=1", "sleep company=1", "sleep company=0");
        wakes.lie(1, true);
        CHECK.due("it got up in it", 3, wakes.mutiny(0, 0, 0, 1));
        wakes.drum();
        CHECK.due("it lay down in it", 1, wakes.mutiny(1, 0, 0, 9));
        CHECK.due("it lay down in it itself", 1, wakes.mutiny(2, 0, 0, 9));
    }

    private static void mutinyOfNoughtTo96() {
        CHECK.sentence(MUTINY, "MUTINY (b 0 to 96, n 0 to 96): MEN of it; NONE without these.");
        SleepWaves waves = hall("sleep now=95 and day=1 and company>0;sleep day=0 and now=0 and company>0;"
            + "wake day=1 and now=94;wake now=96", NOTHING);
        CHECK.due("b 96, n 96", 15 + 16, waves.mutiny(1, 0, 96, 96));
        CHECK.due("b 0, n 0", 1, waves.mutiny(1, 0, 0, 0));
        // the others are up at QUARTER 190 alone, the last but one of 192
        CHECK.due("b 96, n 94", 1, waves.mutiny(0, 0, 96, 94));
        CHECK.due("b 96, n 95", 3, waves.mutiny(0, 0, 96, 95));
        CHECK.due("b 96, n 96", 3, waves.mutiny(0, 0, 96, 96));
        for (int wrong : BEYOND_96) {
            CHECK.due("b " + wrong, -1, waves.mutiny(0, 0, wrong, 0));
            CHECK.due("n " + wrong, -1, waves.mutiny(0, 0, 0, wrong));
            CHECK.due("both " + wrong, -1, waves.mutiny(0, 0, wrong, wrong));
        }
        for (int law : NO_LAWS) {
            CHECK.due("law " + law, -1, waves.mutiny(law, 0, 0, 0));
        }
        for (int company : new int[] {-1, 5, 12, Integer.MAX_VALUE, Integer.MIN_VALUE}) {
            CHECK.due("company " + company, -1, waves.mutiny(0, company, 0, 0));
        }
    }

    // ---- crest ----

    private static void crest(SleepWaves waves, int company, int n, int s, int b, int men) {
        String call = "crest(0, " + company + ", " + n + ", " + s + ", ";
        CHECK.due(call + "0)", b, waves.crest(0, company, n, s, 0));
        CHECK.due(call + "1)", men, waves.crest(0, company, n, s, 1));
    }

    private static void ofSeveralTheLeast() {
        CHECK.sentence(CREST, WHERE_IT_CRESTS);
        crest(hall(NOTHING), 0, 1, 96, 0, 3);
        crest(hall(NOTHING), 0, 0, 96, 0, 1);
        // 1 is up at 3 and at 6
        SleepWaves waves = Check.told("company 1 0 0 0;company 2 0 1 0", "wake now=3 or now=6;sleep company=1");
        waves.lie(1, true);
        crest(waves, 0, 1, 3, 0, 1);
        crest(waves, 0, 1, 4, 3, 3);
        crest(waves, 0, 1, 9, 3, 3);
        crest(waves, 0, 2, 9, 2, 3);
        crest(waves, 0, 4, 9, 0, 3);
    }

    private static void beginsUpToSLessOne() {
        CHECK.sentence(CREST, WHERE_IT_CRESTS);
        SleepWaves waves = Check.told("company 1 0 0 0;company 2 0 1 0", "wake now=95");
        waves.lie(1, true);
        crest(waves, 0, 1, 96, 95, 3);
        crest(waves, 0, 1, 95, 0, 1);
        crest(waves, 0, 2, 95, 94, 3);
        crest(waves, 0, 48, 96, 48, 3);
        crest(waves, 0, 48, 48, 0, 1);
        crest(waves, 0, 48, 1, 0, 1);
    }

    private static void whatFarMutiniesSee() {
        CHECK.sentence(CREST, WHERE_IT_CRESTS);
        // at 142, the last QUARTER of b 95 and n 48, one more is up
        SleepWaves waves = Check.told("company 1 0 0 0;company 2 0 1 0", "wake day=1 and now=46");
        waves.lie(1, true);
        crest(waves, 0, 48, 96, 95, 3);
        crest(waves, 0, 47, 96, 0, 1);
    }

    private static void crestWithoutThese() {
        CHECK.sentence(CREST, "CREST (n 0 to 48, s 1 to 96) what 0: b, 1: MEN; NONE without these.");
        SleepWaves waves = hall(NOTHING, NOTHING);
        crest(waves, 2, 0, 1, 0, 4);
        crest(waves, 2, 48, 96, 0, 31);
        for (int n : new int[] {-1, 49, 96, Integer.MAX_VALUE, Integer.MIN_VALUE}) {
            crest(waves, 0, n, 1, -1, -1);
        }
        for (int s : new int[] {0, -1, 97, Integer.MAX_VALUE, Integer.MIN_VALUE}) {
            crest(waves, 0, 1, s, -1, -1);
        }
        for (int company : new int[] {-1, 5, 12, Integer.MAX_VALUE, Integer.MIN_VALUE}) {
            crest(waves, company, 1, 1, -1, -1);
        }
        for (int what : new int[] {-1, 2, Integer.MAX_VALUE, Integer.MIN_VALUE}) {
            CHECK.due("what " + what, -1, waves.crest(0, 0, 1, 1, what));
        }
        for (int law : NO_LAWS) {
            CHECK.due("law " + law, -1, waves.crest(law, 0, 1, 1, 0));
        }
    }

    // ---- dreams ----

    private static void itKnowsItNow() {
        CHECK.sentence(DREAM, "DREAM: a COMPANY knows it now.");
        SleepWaves waves = hall(NOTHING);
        waves.lie(2, true);
        for (int i = 0; i < 5; i++) {
            CHECK.due("dream of " + i, 1 << i, waves.dream(0, i, 0));
            CHECK.due("told of " + i, 0, waves.told(0, i, i, 0));
            CHECK.due("told of " + i, 0, waves.told(0, i, i, 96));
        }
    }

    private static void allUpInAHall() {
        CHECK.sentence(DREAM, WHO_DREAMS);
        SleepWaves waves = hall(NOTHING);
        CHECK.due("all of them in one QUARTER", 31, waves.dream(0, 2, 1));
        waves.lie(1, true);
        CHECK.due("but who sleeps", 29, waves.dream(0, 2, 1));
        CHECK.due("ever", 29, waves.dream(0, 2, 96));
        CHECK.due("who sleeps tells none", 2, waves.dream(0, 1, 96));
        SleepWaves others = Check.told("company 1 0 0 0;company 1 1 1 0;company 1 3 2 0;company 1 3 3 0", NOTHING);
        CHECK.due("none of another HALL", 1, others.dream(0, 0, 96));
        CHECK.due("the last HALL", 12, others.dream(0, 3, 1));
        // UP behind the QUARTER counts
        SleepWaves wakes = Check.told("company 1 0 0 0;company 1 0 1 0", "wake 1=1", "sleep company=1", "sleep company=0");
        wakes.lie(1, true);
        CHECK.due("it got up in it", 3, wakes.dream(0, 1, 1));
        wakes.drum();
        CHECK.due("it lay down in it", 1, wakes.dream(1, 0, 1));
        CHECK.due("it lay down in it itself", 1, wakes.dream(2, 0, 1));
    }

    private static void bothOfOneBed() {
        CHECK.sentence(DREAM, WHO_DREAMS);
        SleepWaves waves = Check.told("company 1 0 5 0;company 1 1 5 0;company 1 2 5 0;company 1 3 6 0", NOTHING);
        CHECK.due("all of one BED", 7, waves.dream(0, 1, 1));
        CHECK.due("none of another", 8, waves.dream(0, 3, 96));
        waves.lie(2, true);
        CHECK.due("from one ASLEEP", 7, waves.dream(0, 2, 1));
        CHECK.due("to one ASLEEP", 7, waves.dream(0, 0, 1));
    }

    private static void bedsBehindAllHalls() {
        CHECK.sentence(DREAM, WHO_DREAMS);
        // 0 - HALL - 1 - BED - 2 - HALL - 3 - BED - 4
        SleepWaves waves = Check.told("company 1 0 0 0;company 1 0 1 0;company 1 1 1 0;company 1 1 2 0;company 1 2 2 0",
            NOTHING);
        int[] fromFirst = {1, 7, 31};
        int[] fromLast = {16, 24, 30, 31};
        for (int n = 0; n < fromFirst.length; n++) {
            CHECK.due("from 0, n " + n, fromFirst[n], waves.dream(0, 0, n));
        }
        for (int n = 0; n < fromLast.length; n++) {
            CHECK.due("from 4, n " + n, fromLast[n], waves.dream(0, 4, n));
        }
    }

    private static void dreamNoughtTo96() {
        CHECK.sentence(DREAM, "DREAM (n 0 to 96): who knows it, as bits; NONE without these.");
        SleepWaves waves = Check.told("company 1 0 0 0;company 1 0 1 0", "wake now=95", NOTHING);
        waves.lie(1, true);
        CHECK.due("n 0", 1, waves.dream(0, 0, 0));
        CHECK.due("n 95", 1, waves.dream(0, 0, 95));
        CHECK.due("n 96", 3, waves.dream(0, 0, 96));
        for (int n : BEYOND_96) {
            CHECK.due("n " + n, -1, waves.dream(0, 0, n));
        }
        for (int law : NO_LAWS) {
            CHECK.due("law " + law, -1, waves.dream(law, 0, 0));
        }
        for (int company : new int[] {-1, 2, 12, Integer.MAX_VALUE, Integer.MIN_VALUE}) {
            CHECK.due("company " + company, -1, waves.dream(0, company, 0));
        }
        SleepWaves twelve = Check.told(Check.times(12, "company 1 0 0 0"), NOTHING);
        CHECK.due("twelve", 4095, twelve.dream(0, 11, 1));
    }

    private static void behindTheKth() {
        CHECK.sentence(TOLD, WHO_KNOWS_WHEN);
        SleepWaves waves = Check.told("company 1 0 0 0;company 1 0 1 0;company 1 1 1 0;company 1 1 2 0;company 1 2 2 0",
            NOTHING);
        int[] fromLast = {3, 2, 2, 1, 0};
        for (int other = 0; other < 5; other++) {
            CHECK.due("told(0, 4, " + other + ", 96)", fromLast[other], waves.told(0, 4, other, 96));
            CHECK.due("told in just so many", fromLast[other], waves.told(0, 4, other, fromLast[other]));
            if (other < 4) {
                CHECK.due("told in one less", -2, waves.told(0, 4, other, fromLast[other] - 1));
            }
        }
    }

    private static void toldAtTheEnd() {
        CHECK.sentence(TOLD, "When another one (or itself) knows the DREAM first, in n QUARTERS; -2: not in these; NONE without these.");
        SleepWaves waves = Check.told("company 1 0 0 0;company 1 0 1 0;company 1 3 2 0", "wake now=95", NOTHING);
        waves.lie(1, true);
        CHECK.due("itself", 0, waves.told(0, 0, 0, 0));
        CHECK.due("n 0", -2, waves.told(0, 0, 1, 0));
        CHECK.due("n 95", -2, waves.told(0, 0, 1, 95));
        CHECK.due("n 96", 96, waves.told(0, 0, 1, 96));
        CHECK.due("never", -2, waves.told(0, 0, 2, 96));
    }

    private static void toldWithoutThese() {
        CHECK.sentence(TOLD, "When another one (or itself) knows the DREAM first, in n QUARTERS; -2: not in these; NONE without these.");
        SleepWaves waves = Check.told("company 1 0 0 0;company 1 0 1 0", NOTHING, NOTHING);
        for (int n : BEYOND_96) {
            CHECK.due("n " + n, -1, waves.told(0, 0, 1, n));
        }
        for (int law : NO_LAWS) {
            CHECK.due("law " + law, -1, waves.told(law, 0, 1, 1));
        }
        for (int company : new int[] {-1, 2, 12, 32, Integer.MAX_VALUE, Integer.MIN_VALUE}) {
            CHECK.due("company " + company, -1, waves.told(0, company, 1, 1));
            CHECK.due("other " + company, -1, waves.told(0, 1, company, 1));
            CHECK.due("both " + company, -1, waves.told(0, company, company, 1));
        }
    }

    public static void main(String[] args) {
        itIsOfItFromThenOn();
        fromQuarterBOn();
        eachWinsOne();
        byTheirNumbers();
        sameHallOrSameBed();
        bothMustBeUp();
        mutinyOfNoughtTo96();
        ofSeveralTheLeast();
        beginsUpToSLessOne();
        whatFarMutiniesSee();
        crestWithoutThese();
        itKnowsItNow();
        allUpInAHall();
        bothOfOneBed();
        bedsBehindAllHalls();
        dreamNoughtTo96();
        behindTheKth();
        toldAtTheEnd();
        toldWithoutThese();
        CHECK.end();
    }
}
