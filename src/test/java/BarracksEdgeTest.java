/** Promises 1 to 4 and the BARRACKS of the Terms: a test for each sentence that names an edge. */
public final class BarracksEdgeTest {
    private static final Check CHECK = new Check("edges of barracks");
    private static final String NEW = "Promise 1: A new object";
    private static final String FEED = "Promise 2: feed";
    private static final String END = "Promise 3: end";
    private static final String BARRACKS = "Promise 4: barracks";

    private static final String WHAT_IS_A_DUTY = "duty NUMBER NUMBER NUMBER (a COMPANY that was told, from and till: "
        + "QUARTERS of the day, both counted, till not below from)";

    private static final int BLANKS = 0x20202020;
    private static final String NOTHING = "wake 1=0";

    private static void good(int companies, String text) {
        CHECK.due("'" + text + "'", companies, Check.barracks(new SleepWaves(), text));
    }

    /** The ^ tells the place of the fault and is not fed. */
    private static void bad(int kind, String marked) {
        badAt(marked.indexOf('^'), kind, Check.unmarked(marked));
    }

    private static void badAt(int place, int kind, String text) {
        CHECK.due("'" + text + "'", -2 - (1 + 8 * place + kind), Check.barracks(new SleepWaves(), text));
    }

    // ---- promise 1 ----

    private static void nothingIsThereAtFirst() {
        CHECK.sentence(NEW, "No COMPANIES, no LAWS.");
        SleepWaves waves = new SleepWaves();
        CHECK.due("count(0)", 0, waves.count(0));
        CHECK.due("count(3)", 0, waves.count(3));
        for (int i = 0; i < 12; i++) {
            CHECK.due("company " + i, -1, waves.company(i, 0));
            CHECK.due("why " + i, -2, waves.why(i, 0));
            CHECK.due("lie " + i, false, waves.lie(i, true));
            CHECK.due("tires " + i, -1, waves.tires(i, 0));
            CHECK.due("run " + i, -1, waves.run(i));
        }
        for (int law = 0; law < 6; law++) {
            CHECK.due("tick by law " + law, -1, waves.tick(law, 1));
            CHECK.due("ahead by law " + law, -1, waves.ahead(law, 0, 0));
        }
        CHECK.due("just none", 0, waves.just(0, 0));
        CHECK.due("just one", -1, waves.just(1, 0));
    }

    private static void allElseIsEmptyAtFirst() {
        CHECK.sentence(NEW, "No COMPANIES, no LAWS.");
        SleepWaves waves = new SleepWaves();
        for (int what = 0; what <= 13; what++) {
            CHECK.due("count(" + what + ")", what == 7 ? -2 : 0, waves.count(what));
        }
        CHECK.due("log(1)", -1, waves.log(1));
        CHECK.due("end(1)", -1, waves.end(1));
        CHECK.due("drum()", 0, waves.drum());
        for (int k = 0; k < 4; k++) {
            CHECK.due("back(" + k + ")", -1, waves.back(k));
        }
        CHECK.due("a law of the empty tape", Check.fault(0, "^"), waves.law());
        CHECK.due("barracks of the empty tape", Check.fault(0, "^"), waves.barracks());
    }

    // ---- promises 2 and 3 ----

    private static void eachByteComesToItsPlace() {
        CHECK.sentence(FEED, "Twenty bytes come behind the TAPE, of each number the highest first: how many it has");
        for (int place = 0; place < 20; place++) {
            for (int wrong : new int[] {0, 127, 128, 255}) {
                int[] n = {BLANKS, BLANKS, BLANKS, BLANKS, BLANKS};
                int shift = 24 - 8 * (place % 4);
                n[place / 4] = BLANKS & ~(255 << shift) | wrong << shift;
                SleepWaves waves = new SleepWaves();
                CHECK.due("feed", 20, waves.feed(n[0], n[1], n[2], n[3], n[4]));
                CHECK.due("byte " + wrong + " at " + place, -3 - 8 * place, waves.barracks());
            }
        }
    }

    private static void twentyComeBehindThoseThereAre() {
        CHECK.sentence(FEED, "Twenty bytes come behind the TAPE, of each number the highest first: how many it has");
        SleepWaves waves = new SleepWaves();
        Check.feed(waves, "watch 1");
        CHECK.due("feed behind 7", 27, waves.feed('2' << 24 | BLANKS >>> 8, BLANKS, BLANKS, BLANKS, BLANKS));
        CHECK.due("count(12)", 27, waves.count(12));
        CHECK.due("barracks()", 0, waves.barracks());
        CHECK.due("the 1 and the 2", 12, waves.count(13));
    }

    private static void theTapeTakesFourHundred() {
        CHECK.sentence(FEED, "NONE, and none comes, if it would have more than 400.");
        SleepWaves waves = new SleepWaves();
        for (int i = 1; i <= 20; i++) {
            CHECK.due("feed " + i, 20 * i, waves.feed(0, 0, 0, 0, 0));
        }
        CHECK.due("feed behind 400", -1, waves.feed(0, 0, 0, 0, 0));
        CHECK.due("count(12)", 400, waves.count(12));
        for (int has = 399; has > 380; has--) {
            waves.end(has);
            CHECK.due("feed behind " + has, -1, waves.feed(0, 0, 0, 0, 0));
            CHECK.due("count(12)", has, waves.count(12));
        }
        waves.end(380);
        CHECK.due("feed behind 380", 400, waves.feed(0, 0, 0, 0, 0));
    }

    private static void noneOfTwentyTooManyComes() {
        CHECK.sentence(FEED, "NONE, and none comes, if it would have more than 400.");
        SleepWaves waves = new SleepWaves();
        Check.feed(waves, "watch 7" + " ".repeat(374));
        CHECK.due("feed behind 381", -1, waves.feed(-1, -1, -1, -1, -1));
        CHECK.due("end(382)", -1, waves.end(382));
        CHECK.due("barracks()", 0, waves.barracks());
        CHECK.due("count(13)", 7, waves.count(13));
    }

    private static void theFirstBytesAreLeftAlone() {
        CHECK.sentence(END, "The TAPE has its first n bytes alone: n");
        String text = "watch 1200";
        for (int n = 7; n <= text.length(); n++) {
            SleepWaves waves = new SleepWaves();
            Check.feed(waves, text);
            CHECK.due("end(" + n + ")", n, waves.end(n));
            CHECK.due("count(12)", n, waves.count(12));
            CHECK.due("end(" + (n + 1) + ") then", -1, waves.end(n + 1));
            CHECK.due("barracks()", 0, waves.barracks());
            CHECK.due("count(13)", Integer.parseInt(text.substring(6, n)), waves.count(13));
        }
        SleepWaves none = new SleepWaves();
        CHECK.due("end(0) of none", 0, none.end(0));
        Check.feed(none, text);
        CHECK.due("end(0)", 0, none.end(0));
        CHECK.due("count(12)", 0, none.count(12));
        CHECK.due("barracks() of none", Check.fault(0, "^"), none.barracks());
    }

    private static void aWrongEndChangesNothing() {
        CHECK.sentence(END, "NONE, and nothing happens, if it has not so many, or n is below 0.");
        SleepWaves waves = new SleepWaves();
        CHECK.due("end(1) of none", -1, waves.end(1));
        CHECK.due("end(-1) of none", -1, waves.end(-1));
        Check.feed(waves, "watch 12");
        for (int wrong : new int[] {9, 20, 400, 401, Integer.MAX_VALUE, -1, -8, Integer.MIN_VALUE}) {
            CHECK.due("end(" + wrong + ")", -1, waves.end(wrong));
            CHECK.due("count(12)", 8, waves.count(12));
        }
        CHECK.due("barracks()", 0, waves.barracks());
        CHECK.due("count(13)", 12, waves.count(13));
    }

    // ---- promise 4: what it changes ----

    private static void theTapeIsEmptyThen() {
        CHECK.sentence(BARRACKS, "The TAPE, which is empty then, are the BARRACKS in place of those there were");
        SleepWaves waves = new SleepWaves();
        CHECK.due("good ones", 0, Check.barracks(waves, "watch 5"));
        CHECK.due("count(12)", 0, waves.count(12));
        CHECK.due("nothing is left", -1, waves.end(1));
        CHECK.due("bad ones", Check.fault(0, "watch 5;^"), Check.barracks(waves, "watch 5;"));
        CHECK.due("count(12)", 0, waves.count(12));
        CHECK.due("nothing is left", -1, waves.end(1));
        CHECK.due("the next ones begin at 0", Check.fault(0, "^x"), Check.barracks(waves, "x"));
    }

    private static void othersComeInTheirPlace() {
        CHECK.sentence(BARRACKS, "in place of those there were");
        SleepWaves waves = Check.told("company 1 1 1 1;company 1 1 1 1;bell 1 1;duty 0 0 95;watch 3", NOTHING);
        CHECK.due("fewer", 1, Check.barracks(waves, "company 2 2 2 2"));
        int[] due = {1, 0, 0, 1, 0, 2};
        for (int what = 0; what < due.length; what++) {
            CHECK.due("count(" + what + ")", due[what], waves.count(what));
        }
        CHECK.due("no watch", 0, waves.count(13));
        CHECK.due("no duty", 0, waves.company(0, 7));
        for (int what = 3; what <= 6; what++) {
            CHECK.due("company(0, " + what + ")", 2, waves.company(0, what));
        }
        CHECK.due("no second one", -1, waves.company(1, 0));
        CHECK.due("none at all", 0, Check.barracks(waves, "bell 0 1"));
        CHECK.due("count(0)", 0, waves.count(0));
        CHECK.due("MEN UP", 0, waves.count(5));
        CHECK.due("company(0, 0)", -1, waves.company(0, 0));
    }

    /** Two beds, one of them warm, one taken; a feast, fails, tired ones, a log. */
    private static SleepWaves used() {
        SleepWaves waves = Check.told("company 9 0 0 0;company 8 0 0 50;company 7 1 1 0;bell 2 3;duty 2 1 2;watch 20",
            "sleep company=1;wake now=2");
        waves.lie(0, true);
        waves.lie(0, false);
        waves.seed(4711);
        waves.tick(0, 3);
        waves.lie(2, true);
        waves.tires(1, 500);
        waves.feast(9);
        return waves;
    }

    private static void allIsAsAtFirst() {
        CHECK.sentence(BARRACKS, "(all as at first, the LOG empty, nothing WARM, no FAILS; x, IMAGES stay)");
        String again = "company 9 0 0 0;company 8 0 0 50;company 7 1 1 0;bell 2 3;duty 2 1 2;watch 20";
        SleepWaves waves = used();
        CHECK.due("it failed", 2, waves.count(6));
        CHECK.due("it was warm", 8, waves.count(8));
        int x = waves.count(11);
        CHECK.due("again", 3, Check.barracks(waves, again));
        SleepWaves fresh = Check.told(again, "sleep company=1;wake now=2");
        fresh.seed(x);
        CHECK.same("again", fresh, waves);
        CHECK.due("never failed", -2, waves.count(7));
        CHECK.due("no bed is warm", 0, waves.ahead(0, 1, 4));
        fresh.tick(0, 5);
        waves.tick(0, 5);
        CHECK.same("behind five quarters", fresh, waves);
    }

    private static void xAndImagesStay() {
        CHECK.sentence(BARRACKS, "(all as at first, the LOG empty, nothing WARM, no FAILS; x, IMAGES stay)");
        SleepWaves waves = used();
        SleepWaves twin = used();
        for (int k = 0; k < 4; k++) {
            waves.image(k);
        }
        waves.seed(Integer.MAX_VALUE);
        CHECK.due("barracks()", 1, Check.barracks(waves, "company 1 0 0 0"));
        CHECK.due("x", Integer.MAX_VALUE, waves.count(11));
        for (int k = 0; k < 4; k++) {
            CHECK.due("back(" + k + ")", 3, waves.back(k));
        }
        CHECK.same("gone back to", twin, waves);
        CHECK.due("the law stays", 1, waves.count(3));
    }

    private static void howManyCompanies() {
        CHECK.sentence(BARRACKS, ": how many COMPANIES; -2 - its FAULT, and all else stays.");
        good(0, "watch 1");
        for (int n = 1; n <= 12; n++) {
            good(n, Check.times(n, "company 1 0 0 0"));
        }
    }

    private static void behindAFaultAllElseStays() {
        CHECK.sentence(BARRACKS, ": how many COMPANIES; -2 - its FAULT, and all else stays.");
        String[] bad = {"^", "company 1 2 3 4;bell 4 4;duty 0 1 1;watch 3;^", "watch 30;^bells 1 1",
            "company 1 0 0 0;company 1 0 0^", "company ^x 0 0 0"};
        for (String marked : bad) {
            SleepWaves waves = used();
            SleepWaves twin = used();
            CHECK.due("'" + marked + "'", Check.fault(0, marked), Check.barracks(waves, Check.unmarked(marked)));
            CHECK.due("the law stays", 1, waves.count(3));
            CHECK.same("behind '" + marked + "'", twin, waves);
            waves.tick(0, 9);
            twin.tick(0, 9);
            CHECK.same("nine quarters behind '" + marked + "'", twin, waves);
        }
    }

    // ---- the language of barracks ----

    private static void fourHundredBytes() {
        CHECK.sentence(BARRACKS, "BARRACKS are a text of at most 400 bytes");
        good(0, "watch 1" + " ".repeat(393));
        good(0, " ".repeat(393) + "watch 1");
        bad(0, " ".repeat(400) + "^");
        bad(0, "watch 1;" + " ".repeat(392) + "^");
        bad(0, "watch 1" + " ".repeat(392) + "^x");
        SleepWaves waves = new SleepWaves();
        CHECK.due("barracks()", 12, Check.barracks(waves, " ".repeat(209) + Check.times(12, "company 1 0 0 5")));
        CHECK.due("the last byte counts", 5, waves.company(11, 6));
    }

    private static void clausesAtLeastOne() {
        CHECK.sentence(BARRACKS, "CLAUSE { ; CLAUSE }, 24 at most");
        bad(0, "^");
        bad(0, "   ^");
        bad(0, "^;");
        bad(0, "^;watch 1");
        bad(0, "watch 1;^");
        bad(0, "watch 1;^;bell 1 1");
        bad(0, "watch 1 ^bell 1 1");
        good(0, "watch 1");
        good(0, "watch 1;bell 1 1");
    }

    private static String twentyFour() {
        return Check.times(12, "company 1 0 0 0") + ";" + Check.times(8, "bell 1 1") + ";"
            + Check.times(4, "duty 0 1 1");
    }

    private static void clausesTwentyFourAtMost() {
        CHECK.sentence(BARRACKS, "CLAUSE { ; CLAUSE }, 24 at most");
        SleepWaves waves = new SleepWaves();
        CHECK.due("24", 12, Check.barracks(waves, twentyFour()));
        CHECK.due("BELLS", 8, waves.count(1));
        CHECK.due("DUTIES", 4, waves.count(2));
        good(12, "watch 1;" + twentyFour().substring(0, twentyFour().lastIndexOf(';')));
        bad(4, twentyFour() + ";^duty 0 1 1");
        bad(4, twentyFour() + ";^watch 1");
    }

    private static void menOneToNinetyNine() {
        CHECK.sentence(BARRACKS, "(men 1 to 99, a HALL 0 to 3, a BED 0 to 11, snore 0 to 100)");
        bad(1, "company ^0 0 0 0");
        good(1, "company 1 0 0 0");
        good(1, "company 99 0 0 0");
        bad(1, "company ^100 0 0 0");
        bad(0, "company ^-1 0 0 0");
    }

    private static void hallNoughtToThree() {
        CHECK.sentence(BARRACKS, "(men 1 to 99, a HALL 0 to 3, a BED 0 to 11, snore 0 to 100)");
        good(1, "company 1 0 0 0");
        good(1, "company 1 3 0 0");
        bad(1, "company 1 ^4 0 0");
        bad(0, "company 1 ^-1 0 0");
    }

    private static void bedNoughtToEleven() {
        CHECK.sentence(BARRACKS, "(men 1 to 99, a HALL 0 to 3, a BED 0 to 11, snore 0 to 100)");
        good(1, "company 1 0 0 0");
        good(1, "company 1 0 11 0");
        bad(1, "company 1 0 ^12 0");
        bad(0, "company 1 0 ^-1 0");
    }

    private static void snoreNoughtToHundred() {
        CHECK.sentence(BARRACKS, "(men 1 to 99, a HALL 0 to 3, a BED 0 to 11, snore 0 to 100)");
        good(1, "company 1 0 0 0");
        good(1, "company 1 0 0 100");
        bad(1, "company 1 0 0 ^101");
        bad(0, "company 1 0 0 ^-1");
    }

    private static void companiesAreKeptAsTold() {
        CHECK.sentence(BARRACKS, "company NUMBER NUMBER NUMBER NUMBER (men 1 to 99, a HALL 0 to 3, a BED 0 to 11,");
        SleepWaves waves = Check.told("company 99 3 11 100;company 1 0 0 0;company 2 1 4 3");
        int[][] due = {{99, 3, 11, 100}, {1, 0, 0, 0}, {2, 1, 4, 3}};
        for (int i = 0; i < 3; i++) {
            for (int what = 3; what <= 6; what++) {
                CHECK.due("company(" + i + ", " + what + ")", due[i][what - 3], waves.company(i, what));
            }
        }
        bad(0, "company 1 0 0^");
        bad(0, "company 1 0 0^;watch 1");
        bad(0, "company 1 0 0 0 ^0");
    }

    private static void bellsOfTheDay() {
        CHECK.sentence(BARRACKS, "bell NUMBER NUMBER (a QUARTER of the day 0 to 95, a tone 1 to 9)");
        good(0, "bell 0 1");
        good(0, "bell 95 9");
        bad(1, "bell ^96 1");
        bad(0, "bell ^-1 1");
        bad(1, "bell 0 ^0");
        bad(1, "bell 0 ^10");
        bad(0, "bell 0^");
        bad(0, "bell 0 1 ^1");
        SleepWaves waves = Check.told("company 1 0 0 0;bell 0 1;bell 95 9", "sleep bell=1 or bell=9;wake bell=0");
        Check.tick(waves, 0, 98);
        int[] quarters = {97, 96, 95, 94, 1, 0};
        int[] up = {1, 0, 0, 1, 1, 0};
        for (int i = 0; i < quarters.length; i++) {
            CHECK.due("UP at " + quarters[i], up[i], waves.log(98 - quarters[i]));
        }
    }

    private static void dutyOfACompanyThatWasTold() {
        CHECK.sentence(BARRACKS, WHAT_IS_A_DUTY);
        bad(1, "duty ^0 1 1");
        bad(1, "duty ^0 1 1;company 1 0 0 0");
        good(1, "company 1 0 0 0;duty 0 1 1");
        bad(1, "company 1 0 0 0;duty ^1 1 1");
        bad(1, "company 1 0 0 0;duty ^1 1 1;company 1 0 0 0");
        good(12, Check.times(12, "company 1 0 0 0") + ";duty 11 1 1");
        bad(1, Check.times(12, "company 1 0 0 0") + ";duty ^12 1 1");
        bad(0, "company 1 0 0 0;duty ^-1 1 1");
    }

    private static void dutyWithinADay() {
        CHECK.sentence(BARRACKS, WHAT_IS_A_DUTY);
        good(1, "company 1 0 0 0;duty 0 0 95");
        bad(1, "company 1 0 0 0;duty 0 ^96 96");
        bad(1, "company 1 0 0 0;duty 0 95 ^96");
        bad(0, "company 1 0 0 0;duty 0 ^-1 1");
        bad(0, "company 1 0 0 0;duty 0 1^");
        bad(0, "company 1 0 0 0;duty 0 1 1 ^1");
    }

    private static void dutyTillNotBelowFrom() {
        CHECK.sentence(BARRACKS, WHAT_IS_A_DUTY);
        good(1, "company 1 0 0 0;duty 0 0 0");
        good(1, "company 1 0 0 0;duty 0 95 95");
        good(1, "company 1 0 0 0;duty 0 5 5");
        bad(1, "company 1 0 0 0;duty 0 5 ^4");
        bad(1, "company 1 0 0 0;duty 0 95 ^0");
        bad(1, "company 1 0 0 0;duty 0 1 ^0");
    }

    private static void dutyBothEndsCount() {
        CHECK.sentence(BARRACKS, WHAT_IS_A_DUTY);
        SleepWaves waves = Check.told("company 1 0 0 0;company 1 0 0 0;company 1 0 0 0;duty 0 3 5;duty 1 95 95;duty 2 0 0",
            NOTHING);
        for (int now = 0; now <= 100; now++) {
            int quarter = now % 96;
            CHECK.due("duty 3 5 at " + now, quarter >= 3 && quarter <= 5 ? 1 : 0, waves.company(0, 7));
            CHECK.due("duty 95 95 at " + now, quarter == 95 ? 1 : 0, waves.company(1, 7));
            CHECK.due("duty 0 0 at " + now, quarter == 0 ? 1 : 0, waves.company(2, 7));
            waves.tick(0, 1);
        }
    }

    private static void watchUpTo1200() {
        CHECK.sentence(BARRACKS, "watch NUMBER (0 to 1200; 0 without)");
        for (int watch : new int[] {0, 1, 1199, 1200}) {
            CHECK.due("watch " + watch, watch, Check.told("watch " + watch).count(13));
        }
        CHECK.due("without", 0, Check.told("bell 1 1").count(13));
        bad(1, "watch ^1201");
        bad(1, "watch ^99999");
        bad(0, "watch ^-1");
        bad(0, "watch^");
        bad(0, "watch 1 ^1");
    }

    private static void withoutAWatchNothingFails() {
        CHECK.sentence(BARRACKS, "watch NUMBER (0 to 1200; 0 without)");
        for (String watch : new String[] {"", ";watch 0"}) {
            SleepWaves waves = Check.told("company 1 0 0 0" + watch, "sleep 1=1");
            waves.tick(0, 3);
            CHECK.due("MEN UP" + watch, 0, waves.count(5));
            CHECK.due("FAILS" + watch, 0, waves.count(6));
        }
        SleepWaves one = Check.told("company 1 0 0 0;watch 1", "sleep 1=1");
        one.tick(0, 3);
        CHECK.due("FAILS;watch 1", 3, one.count(6));
        SleepWaves most = Check.told(Check.times(12, "company 99 0 0 0") + ";watch 1200", NOTHING);
        most.tick(0, 2);
        CHECK.due("FAILS;watch 1200", 2, most.count(6));
    }

    private static void companiesInTheOrderTold() {
        CHECK.sentence(BARRACKS, "COMPANIES 0 to 11, BELLS 0 to 7, DUTIES 0 to 7, in the order told.");
        StringBuilder text = new StringBuilder("watch 1");
        for (int i = 0; i < 12; i++) {
            text.append(";company ").append(99 - i).append(" 0 0 0");
        }
        SleepWaves waves = Check.told(text.toString());
        for (int i = 0; i < 12; i++) {
            CHECK.due("company(" + i + ", 3)", 99 - i, waves.company(i, 3));
        }
        CHECK.due("company(12, 3)", -1, waves.company(12, 3));
        bad(4, Check.times(12, "company 1 0 0 0") + ";^company 1 0 0 0");
    }

    private static void bellsInTheOrderTold() {
        CHECK.sentence(BARRACKS, "COMPANIES 0 to 11, BELLS 0 to 7, DUTIES 0 to 7, in the order told.");
        StringBuilder text = new StringBuilder("company 1 0 0 0");
        for (int i = 0; i < 8; i++) {
            text.append(";bell ").append(7 - i).append(" ").append(1 + i);
        }
        SleepWaves waves = Check.told(text.toString(), "sleep 1=1");
        for (int now = 0; now < 9; now++) {
            waves.drum();
            waves.tick(0, 1);
            CHECK.due("the BELL at " + now, now < 8 ? 7 - now : -1, waves.why(0, 2));
        }
        good(0, Check.times(8, "bell 1 1"));
        bad(4, Check.times(8, "bell 1 1") + ";^bell 1 1");
    }

    private static void dutiesInTheOrderTold() {
        CHECK.sentence(BARRACKS, "COMPANIES 0 to 11, BELLS 0 to 7, DUTIES 0 to 7, in the order told.");
        StringBuilder text = new StringBuilder("company 1 0 0 0");
        for (int i = 0; i < 8; i++) {
            text.append(";duty 0 ").append(7 - i).append(" ").append(7 - i);
        }
        SleepWaves waves = Check.told(text.toString(), NOTHING);
        for (int now = 0; now < 8; now++) {
            waves.lie(0, true);
            waves.tick(0, 1);
            CHECK.due("why at " + now, 4, waves.why(0, 0));
            CHECK.due("the DUTY at " + now, 7 - now, waves.why(0, 2));
        }
        bad(4, text + ";^duty 0 1 1");
    }

    // ---- its faults ----

    private static void noOtherByteCanBegin() {
        CHECK.sentence(BARRACKS, "0 a byte or word that can't stand there, or the end (behind the last byte)");
        for (char b = 0; b < 256; b++) {
            if (b == ' ') {
                badAt(1, 0, " ");
                good(1, " company 1 0 0 0");
            } else {
                badAt(0, 0, "" + b);
                badAt(0, 0, b + "company 1 0 0 0");
            }
        }
        for (String word : new String[] {"companyz", "companya", "bellz", "bella", "dutyz", "dutya", "watchz", "watcha",
            "compan", "companys", "compani", "bel", "bells", "dut", "dutys", "watc", "watchs",
            "a", "z", "sleep", "wake", "xompany", "well", "luty", "match"}) {
            bad(0, "^" + word + " 1 1 1 1");
            bad(0, "watch 1; ^" + word + " 1 1 1 1");
        }
    }

    private static void noOtherByteCanFollow() {
        CHECK.sentence(BARRACKS, "0 a byte or word that can't stand there, or the end (behind the last byte)");
        for (char b = 0; b < 256; b++) {
            boolean isDigit = b >= '0' && b <= '9';
            if (b == ';') {
                badAt(8, 0, "watch 1;");
            } else if (b == ' ' || isDigit) {
                good(0, "watch 1" + b);
                good(0, "watch 1" + b + ";bell 1 1");
            } else {
                badAt(7, 0, "watch 1" + b);
                badAt(8, 0, "watch 1 " + b + ";bell 1 1");
                badAt(6, 0, "watch " + b);
            }
        }
    }

    private static void theEndIsBehindTheLastByte() {
        CHECK.sentence(BARRACKS, "0 a byte or word that can't stand there, or the end (behind the last byte)");
        String[] texts = {"^", " ^", "watch^", "watch ^", "watch  ^", "bell 1^", "bell 1 ^", "bell^", "duty^",
            "company 1 0 0^", "company 1 0 0 ^", "company 1^", "company^", "watch 1;^", "watch 1; ^",
            "company 1 0 0 0;duty 0 1 ^", "company 1 0 0 0;duty 0^"};
        for (String text : texts) {
            bad(0, text);
        }
    }

    private static void fiveDigitsAtMost() {
        CHECK.sentence(BARRACKS, "1 a NUMBER of more digits (5 at most), or not as told (at it)");
        SleepWaves waves = new SleepWaves();
        CHECK.due("five digits", 1, Check.barracks(waves, "company 00099 00003 00011 00100;bell 00095 00009;watch 01200"));
        CHECK.due("men", 99, waves.company(0, 3));
        CHECK.due("snore", 100, waves.company(0, 6));
        CHECK.due("watch", 1200, waves.count(13));
        bad(1, "company ^000099 3 11 100");
        bad(1, "company 99 ^000003 11 100");
        bad(1, "company 99 3 ^000011 100");
        bad(1, "company 99 3 11 ^000100");
        bad(1, "bell ^000000 1");
        bad(1, "bell 0 ^000001");
        bad(1, "watch ^000000");
        bad(1, "watch ^" + "0".repeat(394));
        // these would be 1 if they went round in 32 or in 64 bits
        bad(1, "watch ^4294967297");
        bad(1, "watch ^18446744073709551617");
        bad(1, "company 1 0 0 0;duty ^000000 1 1");
        bad(1, "company 1 0 0 0;duty 0 ^000001 1");
        bad(1, "company 1 0 0 0;duty 0 1 ^000001");
    }

    private static void notAsToldAtTheNumber() {
        CHECK.sentence(BARRACKS, "1 a NUMBER of more digits (5 at most), or not as told (at it)");
        bad(1, "  company   ^0 0 0 0");
        bad(1, "watch 1 ;  bell   ^96 1");
        bad(1, "watch^1201");
        bad(1, "company 1 0 0 ^101;x");
    }

    private static void oneTooManyOfAKind() {
        CHECK.sentence(BARRACKS, "4 one CLAUSE too many, a 13th COMPANY, a ninth BELL or DUTY, a second watch (at its first byte).");
        bad(4, Check.times(12, "company 1 0 0 0") + ";^company 1 0 0 0");
        bad(4, Check.times(12, "company 1 0 0 0") + ";   ^company");
        bad(4, Check.times(8, "bell 1 1") + ";^bell 1 1");
        bad(4, Check.times(8, "bell 1 1") + "; ^bell 96 0");
        bad(4, "company 1 0 0 0;" + Check.times(8, "duty 0 1 1") + ";^duty 0 1 1");
        bad(4, "watch 1;^watch 1");
        bad(4, "watch 0;bell 1 1; ^watch 0");
        good(0, "watch 0;bell 1 1");
    }

    private static void oneClauseTooMany() {
        CHECK.sentence(BARRACKS, "4 one CLAUSE too many, a 13th COMPANY, a ninth BELL or DUTY, a second watch (at its first byte).");
        bad(4, twentyFour() + ";^watch 1");
        bad(4, twentyFour() + ";  ^duty");
        bad(4, twentyFour() + ";^bell 1 1");
        bad(4, twentyFour() + ";^company 1 0 0 0");
    }

    private static void ofOnePlaceTheLeast() {
        CHECK.sentence(BARRACKS, "Of one place the least.");
        bad(0, twentyFour() + ";^x");
        bad(0, twentyFour() + ";^7");
        bad(0, twentyFour() + ";^;");
        bad(0, twentyFour() + ";^");
        bad(0, Check.times(8, "bell 1 1") + ";^bells 1 1");
        bad(0, "watch 1;^watches 1");
        bad(0, "watch 1 ^999999");
        bad(0, "bell 1 1 ^0");
    }

    private static void behindAFaultAllIsToldAnew() {
        CHECK.sentence(BARRACKS, "The TAPE, which is empty then, are the BARRACKS in place of those there were");
        String[] bad = {twentyFour() + ";^x", twentyFour() + ";^", "watch 9;^", "watch 9;bell 1 1;^x",
            Check.times(8, "bell 1 1") + ";^x", "company 1 0 0 0;" + Check.times(8, "duty 0 1 1") + "^x"};
        for (String marked : bad) {
            SleepWaves waves = new SleepWaves();
            CHECK.due("'" + marked + "'", Check.fault(0, marked), Check.barracks(waves, Check.unmarked(marked)));
            CHECK.due("24", 12, Check.barracks(waves, twentyFour()));
            CHECK.due("'" + marked + "'", Check.fault(0, marked), Check.barracks(waves, Check.unmarked(marked)));
            CHECK.due("a watch, and no COMPANIES", 0, Check.barracks(waves, "watch 3"));
            CHECK.due("BELLS", 0, waves.count(1));
            CHECK.due("DUTIES", 0, waves.count(2));
            CHECK.due("no watch", 0, Check.barracks(waves, "bell 1 1"));
            CHECK.due("count(13)", 0, waves.count(13));
        }
    }

    private static void theFirstAlongTheText() {
        CHECK.sentence(BARRACKS, "FAULTS, the first along the text, 1 + 8 * its place and:");
        bad(1, "company ^0 4 12 101");
        bad(1, "company 1 ^4 12 101");
        bad(1, "watch ^1201;x");
        bad(0, "^x;watch 1201");
        bad(4, "watch 1;^watch 1201");
        bad(1, "bell 1 ^0" + ";bell 1 1".repeat(9));
    }

    public static void main(String[] args) {
        nothingIsThereAtFirst();
        allElseIsEmptyAtFirst();
        eachByteComesToItsPlace();
        twentyComeBehindThoseThereAre();
        theTapeTakesFourHundred();
        noneOfTwentyTooManyComes();
        theFirstBytesAreLeftAlone();
        aWrongEndChangesNothing();
        theTapeIsEmptyThen();
        othersComeInTheirPlace();
        allIsAsAtFirst();
        xAndImagesStay();
        howManyCompanies();
        behindAFaultAllElseStays();
        fourHundredBytes();
        clausesAtLeastOne();
        clausesTwentyFourAtMost();
        menOneToNinetyNine();
        hallNoughtToThree();
        bedNoughtToEleven();
        snoreNoughtToHundred();
        companiesAreKeptAsTold();
        bellsOfTheDay();
        dutyOfACompanyThatWasTold();
        dutyWithinADay();
        dutyTillNotBelowFrom();
        dutyBothEndsCount();
        watchUpTo1200();
        withoutAWatchNothingFails();
        companiesInTheOrderTold();
        bellsInTheOrderTold();
        dutiesInTheOrderTold();
        noOtherByteCanBegin();
        noOtherByteCanFollow();
        theEndIsBehindTheLastByte();
        fiveDigitsAtMost();
        notAsToldAtTheNumber();
        oneTooManyOfAKind();
        oneClauseTooMany();
        ofOnePlaceTheLeast();
        behindAFaultAllIsToldAnew();
        theFirstAlongTheText();
        CHECK.end();
    }
}
