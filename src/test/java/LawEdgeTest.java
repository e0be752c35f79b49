/** Promise 5 and the LAWS of the Terms: a test for each sentence that names an edge. */
public final class LawEdgeTest {
    private static final Check CHECK = new Check("edges of laws");
    private static final String LAW = "Promise 5: law";
    private static final String TWELVE = Check.times(12, "company 99 0 0 0");

    private static void good(String text) {
        CHECK.due("'" + text + "'", 0, Check.law(new SleepWaves(), text));
    }

    /** The ^ tells the place of the fault and is not fed. */
    private static void bad(int kind, String marked) {
        badAt(marked.indexOf('^'), kind, Check.unmarked(marked));
    }

    private static void badAt(int place, int kind, String text) {
        CHECK.due("'" + text + "'", -2 - (1 + 8 * place + kind), Check.law(new SleepWaves(), text));
    }

    private static boolean holdsIn(String barracks, String test) {
        SleepWaves waves = Check.told(barracks, "sleep " + test);
        waves.tick(0, 1);
        return waves.company(0, 0) == 1;
    }

    private static void holds(String test) {
        CHECK.due("'" + test + "'", true, holdsIn("company 1 0 0 0", test));
    }

    private static void fails(String test) {
        CHECK.due("'" + test + "'", false, holdsIn("company 1 0 0 0", test));
    }

    /** The QUARTERS of the first so many in which the test holds for company 0, which stays up, are those told. */
    private static void holdsAt(String barracks, String test, int quarters, int... due) {
        SleepWaves waves = Check.told(barracks, "wake 1=0", "sleep " + test);
        int found = 0;
        for (int now = 0; now < quarters; now++) {
            if (waves.ahead(1, 1, 0) == 0) {
                CHECK.due("'" + test + "'", found < due.length ? due[found] : -1, now);
                found++;
            }
            waves.tick(0, 1);
        }
        CHECK.due("times of '" + test + "'", due.length, found);
    }

    // ---- promise 5 ----

    private static void theTapeIsEmptyThen() {
        CHECK.sentence(LAW, "The TAPE, which is empty then, is a LAW: its number; -2 - its FAULT; NONE, and nothing happens: there are 6.");
        SleepWaves waves = new SleepWaves();
        CHECK.due("a good one", 0, Check.law(waves, "wake 1=1"));
        CHECK.due("count(12)", 0, waves.count(12));
        CHECK.due("nothing is left", -1, waves.end(1));
        CHECK.due("a bad one", Check.fault(0, "wake 1=1;^"), Check.law(waves, "wake 1=1;"));
        CHECK.due("count(12)", 0, waves.count(12));
        CHECK.due("nothing is left", -1, waves.end(1));
        CHECK.due("the next one begins at 0", Check.fault(0, "^x"), Check.law(waves, "x"));
    }

    private static void aFaultMakesNoLaw() {
        CHECK.sentence(LAW, "-2 - its FAULT;");
        SleepWaves waves = Check.told("company 1 0 0 0");
        CHECK.due("at the first byte", -3, Check.law(waves, "x"));
        CHECK.due("of nothing", -3, waves.law());
        CHECK.due("too many digits", -3 - 8 * 6 - 1, Check.law(waves, "sleep 123456=1"));
        CHECK.due("behind a good clause", Check.fault(0, "sleep 1=1;^"), Check.law(waves, "sleep 1=1;"));
        CHECK.due("no LAWS", 0, waves.count(3));
        CHECK.due("none to go by", -1, waves.tick(0, 1));
        CHECK.due("the number is free still", 0, Check.law(waves, "wake 1=1"));
        CHECK.due("behind a good clause", Check.fault(0, "sleep 1=1;^"), Check.law(waves, "sleep 1=1;"));
        waves.tick(0, 1);
        CHECK.due("the good clause of a bad law is not there", 0, waves.company(0, 0));
    }

    private static void behindAFaultTheNextLawBeginsAnew() {
        CHECK.sentence(LAW, "The TAPE, which is empty then, is a LAW: its number; -2 - its FAULT;");
        String[] bad = {"sleep not ^x", "sleep not not not ^", "sleep [1=1 and [^x", "sleep 1=1 and not ^", "sleep 1=1 or ^x",
            "sleep 1+2*^x", "sleep 1=2+^", "sleep [^", Check.times(12, "sleep 1=1") + ";^",
            "sleep 0" + "+0".repeat(58) + "=^", "wake 1=1;sleep [not [^", "sleep 1=1;^"};
        String ten = "[".repeat(10) + "1=1" + "]".repeat(10);
        for (String marked : bad) {
            SleepWaves waves = Check.told("company 1 0 0 0;company 1 0 1 0");
            for (int i = 0; i < 12; i++) {
                CHECK.due("'" + marked + "'", Check.fault(0, marked), Check.law(waves, Check.unmarked(marked)));
            }
            CHECK.due("0 is still free", 0, Check.law(waves, "sleep company=1" + ";wake 1=0".repeat(11)));
            CHECK.due("'" + marked + "'", Check.fault(0, marked), Check.law(waves, Check.unmarked(marked)));
            CHECK.due("ten deep", 1, Check.law(waves, "sleep company=0 and " + ten));
            CHECK.due("'" + marked + "'", Check.fault(0, marked), Check.law(waves, Check.unmarked(marked)));
            CHECK.due("no bracket is open", Check.fault(0, "sleep 1=1^]"), Check.law(waves, "sleep 1=1]"));
            CHECK.due("sixty", 2, Check.law(waves, "wake 0=0" + "+0".repeat(57)));
            waves.tick(0, 1);
            CHECK.due("UP by law 0", 1, waves.log(1));
            waves.tick(1, 1);
            CHECK.due("UP by law 1", 0, waves.log(1));
            waves.tick(2, 1);
            CHECK.due("UP by law 2", 3, waves.log(1));
        }
    }

    private static void sixLawsEachWithItsNumber() {
        CHECK.sentence(LAW, "LAWS 0 to 5: texts likewise, 12 CLAUSES at most: sleep TEST | wake TEST.");
        SleepWaves waves = Check.told(Check.times(6, "company 1 0 0 0"));
        for (int i = 0; i < 6; i++) {
            CHECK.due("law " + i, i, Check.law(waves, "sleep company=" + i));
            CHECK.due("count(3)", i + 1, waves.count(3));
        }
        for (int i = 0; i < 6; i++) {
            waves.drum();
            waves.tick(i, 1);
            CHECK.due("UP by law " + i, 63 - (1 << i), waves.log(1));
        }
        CHECK.due("law 6", -1, waves.tick(6, 1));
        CHECK.due("law -1", -1, waves.tick(-1, 1));
    }

    private static void aSeventhLawChangesNothing() {
        CHECK.sentence(LAW, "NONE, and nothing happens: there are 6.");
        SleepWaves waves = new SleepWaves();
        for (int i = 0; i < 6; i++) {
            Check.law(waves, "wake 1=1");
        }
        CHECK.due("a seventh of nothing", -1, waves.law());
        Check.feed(waves, "watch 9");
        CHECK.due("a seventh", -1, waves.law());
        CHECK.due("count(3)", 6, waves.count(3));
        CHECK.due("the TAPE stays", 7, waves.count(12));
        CHECK.due("its bytes stay", 0, waves.barracks());
        CHECK.due("count(13)", 9, waves.count(13));
    }

    private static void lawsStayBehindBarracks() {
        CHECK.sentence("Promise 4: barracks", "(all as at first, the LOG empty, nothing WARM, no FAILS; x, IMAGES stay)");
        SleepWaves waves = Check.told("company 1 0 0 0", "sleep company=0");
        Check.barracks(waves, "company 1 0 0 0;company 1 0 1 0");
        waves.tick(0, 1);
        CHECK.due("by the law told ahead of them", 2, waves.log(1));
    }

    // ---- clauses ----

    private static void twelveClausesAtMost() {
        CHECK.sentence(LAW, "LAWS 0 to 5: texts likewise, 12 CLAUSES at most: sleep TEST | wake TEST.");
        good(Check.times(12, "sleep 1=1"));
        good(Check.times(12, "wake 1=1"));
        bad(4, Check.times(12, "sleep 1=1") + ";^sleep 1=1");
        bad(4, Check.times(12, "wake 1=1") + ";^sleep 1=1");
        SleepWaves waves = Check.told("company 1 0 0 0", Check.times(11, "wake 1=0") + ";sleep 1=1",
            Check.times(11, "sleep 1=0") + ";wake 1=1");
        waves.tick(0, 1);
        CHECK.due("the twelfth counts", 1, waves.company(0, 0));
        waves.tick(1, 1);
        CHECK.due("the twelfth counts", 0, waves.company(0, 0));
    }

    private static void clausesAtLeastOne() {
        CHECK.sentence(LAW, "LAWS 0 to 5: texts likewise, 12 CLAUSES at most: sleep TEST | wake TEST.");
        bad(0, "^");
        bad(0, "  ^");
        bad(0, "^;");
        bad(0, "^;wake 1=1");
        bad(0, "wake 1=1;^");
        bad(0, "wake 1=1;^;wake 1=1");
        bad(0, "wake 1=1 ^sleep 1=1");
        bad(0, "wake^");
        bad(0, "wake ^");
        bad(0, "wake ^;sleep 1=1");
        bad(0, "wake ^sleep 1=1");
    }

    private static void fourHundredBytes() {
        CHECK.sentence(LAW, "LAWS 0 to 5: texts likewise, 12 CLAUSES at most: sleep TEST | wake TEST.");
        good("sleep" + " ".repeat(392) + "1=1");
        good("sleep 1=1" + " ".repeat(391));
        bad(0, "sleep 1=" + " ".repeat(392) + "^");
        bad(0, "sleep 1=1" + " ".repeat(390) + "^x");
        holds(" ".repeat(391) + "1=1");
        fails(" ".repeat(391) + "1=0");
    }

    // ---- tests, parts, facts ----

    private static void someClauseHolds() {
        CHECK.sentence(LAW, "TEST: PART { or PART }. PART: FACT { and FACT }. FACT: not FACT | [ TEST ]");
        SleepWaves waves = Check.told("company 1 0 0 0", "sleep 1=0;sleep 1=1;sleep 1=0;wake 1=0;wake 1=1;wake 1=0",
            "wake 1=1", "sleep 1=1");
        waves.tick(1, 1);
        CHECK.due("no sleep TEST", 0, waves.company(0, 0));
        waves.tick(0, 1);
        CHECK.due("some sleep TEST", 1, waves.company(0, 0));
        waves.tick(2, 1);
        CHECK.due("no wake TEST", 1, waves.company(0, 0));
        waves.tick(0, 1);
        CHECK.due("some wake TEST", 0, waves.company(0, 0));
    }

    private static void orAndAndNot() {
        CHECK.sentence(LAW, "TEST: PART { or PART }. PART: FACT { and FACT }. FACT: not FACT | [ TEST ]");
        String[] facts = {"1=0", "1=1"};
        for (int i = 0; i < 8; i++) {
            boolean a = (i & 1) != 0;
            boolean b = (i & 2) != 0;
            boolean c = (i & 4) != 0;
            String x = facts[i & 1];
            String y = facts[i >> 1 & 1];
            String z = facts[i >> 2];
            CHECK.due(x + " or " + y + " and " + z, a || b && c, holdsIn("company 1 0 0 0", x + " or " + y + " and " + z));
            CHECK.due(x + " and " + y + " or " + z, a && b || c, holdsIn("company 1 0 0 0", x + " and " + y + " or " + z));
            CHECK.due("[or] and", (a || b) && c, holdsIn("company 1 0 0 0", "[" + x + " or " + y + "] and " + z));
            CHECK.due("not and", !a && b, holdsIn("company 1 0 0 0", "not " + x + " and " + y));
            CHECK.due("not or", !a || b, holdsIn("company 1 0 0 0", "not " + x + " or " + y));
            CHECK.due("not []", !(a || b), holdsIn("company 1 0 0 0", "not [" + x + " or " + y + "]"));
            CHECK.due("not not", a, holdsIn("company 1 0 0 0", "not not " + x));
        }
    }

    private static void bracketsHoldTestsAlone() {
        CHECK.sentence(LAW, "[ TEST ] (these brackets are signs)");
        good("sleep [1=1]");
        good("sleep[[1=1]or[1=1]]and[1=1]");
        bad(0, "sleep [^]");
        bad(0, "sleep ^]");
        bad(0, "sleep [1=1^");
        bad(0, "sleep [1=1^;sleep 1=1");
        bad(0, "sleep 1=1^]");
        bad(0, "sleep [1=1]^]");
        bad(0, "sleep [1^]=1");
        bad(0, "sleep 1=^[1]");
        bad(0, "sleep [1=1]^=1");
        bad(0, "sleep [1=1]^+1=1");
        bad(0, "sleep ^(1=1)");
    }

    private static void signsAtEqualSums() {
        CHECK.sentence(LAW, "SUM SIGN SUM, SIGN one of < <= = >= >.");
        String[] signs = {"<", "<=", "=", ">=", ">"};
        for (int i = 0; i < signs.length; i++) {
            CHECK.due("4" + signs[i] + "5", i <= 1, holdsIn("company 1 0 0 0", "4" + signs[i] + "5"));
            CHECK.due("5" + signs[i] + "5", i >= 1 && i <= 3, holdsIn("company 1 0 0 0", "5" + signs[i] + "5"));
            CHECK.due("6" + signs[i] + "5", i >= 3, holdsIn("company 1 0 0 0", "6" + signs[i] + "5"));
        }
        bad(0, "sleep 1=^=1");
        bad(0, "sleep 1=^<1");
        bad(0, "sleep 1<^>1");
        bad(0, "sleep 1< ^=1");
        bad(0, "sleep 1^!=1");
        bad(0, "sleep 1=1^=1");
        bad(0, "sleep 1^");
        bad(0, "sleep 1 ^and 1=1");
    }

    // ---- sums ----

    private static void sumsGoFromTheLeft() {
        CHECK.sentence(LAW, "SUM: TERM { (+ or -) TERM }. TERM: VALUE { (* or / or %) VALUE }.");
        String[] all = {"10-3-2=5", "10-3+2=9", "2+3*4=14", "2*3+4=10", "100/10/2=5", "100/10*2=20", "7%4*2=6", "2*7%4=2",
            "10-2*3=4", "3-5+1<0"};
        for (String test : all) {
            holds(test);
        }
        bad(0, "sleep ^-1=1");
        bad(0, "sleep 1+^-1=1");
        bad(0, "sleep 1*^=1");
        bad(0, "sleep 1=1+^");
    }

    private static void quotientsGoTowardsNought() {
        CHECK.sentence(LAW, "/ is towards 0, % its rest, both 0 by 0;");
        for (String test : new String[] {"7/2=3", "0-7/2=0-3", "7%2=1", "6/2=3", "6%2=0", "1/2=0", "1%2=1", "0/5=0", "0%5=0"}) {
            holds(test);
        }
        // a VALUE is never below 0, so that a TERM is only by going round
        String below = "60000*60000*60000*60000";
        holds(below + "<0");
        holds(below + "/10000*10000>" + below);
        holds(below + "%7<0");
        holds(below + "/7*7+" + below + "%7=" + below);
        String least = "32768*32768*32768*32768*8";
        holds(least + "/10*10>" + least);
        holds(least + "/10*10-8=" + least);
        holds(least + "%10+8=0");
        holds(least + "/1=" + least);
        holds(least + "%1=0");
    }

    private static void byNoughtAllIsNought() {
        CHECK.sentence(LAW, "/ is towards 0, % its rest, both 0 by 0;");
        String[] all = {"5/0=0", "5%0=0", "0/0=0", "0%0=0", "5/now=0", "5%now=0", "7+5/0=7", "7+5%0=7", "99999*99999/0=0",
            "60000*60000*60000*60000/0=0", "60000*60000*60000*60000%0=0", "5/0*3=0", "5/tired=0", "5%bell=0"};
        for (String test : all) {
            holds(test);
        }
    }

    private static void allGoesRoundInSixtyFourBits() {
        CHECK.sentence(LAW, "all goes round in 64 bits.");
        String most = "32768*32768*32768*32768*8-1";
        String least = "32768*32768*32768*32768*8";
        String[] all = {least + "<0", most + ">0", most + ">99999*99999*99999", most + "+1=" + least, most + "+1<0",
            "0-" + least + "=" + least, "0-" + least + "<0", "32768*32768*32768*32768*16=0", "65536*65536*65536*65536=0",
            "65536*32768=2*32768*32768", "65536*32768>0", "65536*65536>0", "65536*65536*32768*1>0", "99999*99999>99999",
            least + "-1=" + most, "65536*65536*65536*65536+7=7"};
        for (String test : all) {
            holds(test);
        }
    }

    // ---- values ----

    private static void numbersOfOneToFiveDigits() {
        CHECK.sentence(LAW, "VALUE: NUMBER (1 to 5 digits, as far as digits go on) | WORD.");
        good("sleep 0=0");
        good("sleep 99999=00000");
        holds("99999+1=10*10000");
        holds("00007=7");
        fails("00000=1");
        bad(1, "sleep ^100000=1");
        bad(1, "sleep ^000000=1");
        bad(1, "sleep 1=^999999");
        bad(1, "sleep 1=1+^000001");
        bad(1, "sleep ^4294967297=1");
        bad(1, "sleep ^18446744073709551617=1");
        bad(1, "sleep ^" + "1".repeat(394));
        bad(0, "sleep 1 ^1=1");
    }

    private static void wordsAsFarAsLettersGo() {
        CHECK.sentence(LAW, "WORDS (small letters, as far as these go on) of a COMPANY:");
        for (String word : new String[] {"now", "day", "tired", "long", "company", "men", "hall", "up", "bell", "snore"}) {
            good("sleep " + word + "=" + word);
            good("sleep " + word + "=0and 0=" + word);
            for (char letter = 'a'; letter <= 'z'; letter++) {
                bad(0, "sleep ^" + word + letter + "=1");
            }
            bad(0, "sleep ^" + word.substring(1) + "=1");
            bad(0, "sleep ^" + word.substring(0, word.length() - 1) + "=1");
            bad(0, "sleep ^x" + word + "=1");
            bad(0, "sleep 1=^" + word + word);
            bad(0, "sleep " + word + "^1=1");
            bad(0, "sleep ^" + Character.toUpperCase(word.charAt(0)) + word.substring(1) + "=1");
            bad(0, "^sleep" + word + "=1");
            bad(0, "sleep ^not" + word + "=1");
        }
        for (String word : new String[] {"bed", "asleep", "watch", "x", "or", "and", "sleep", "wake", "duty", "feast"}) {
            bad(0, "sleep ^" + word + "=1");
        }
        for (char letter = 'a'; letter <= 'z'; letter++) {
            bad(0, "sleep 1=1 ^and" + letter + " 1=1");
            bad(0, "sleep 1=1 ^or" + letter + " 1=1");
            bad(0, "sleep ^not" + letter + " 1=1");
            bad(0, "^sleep" + letter + " 1=1");
            bad(0, "^wake" + letter + " 1=1");
        }
        bad(0, "sleep 1=1 ^an 1=1");
        bad(0, "^slee 1=1");
    }

    private static void nowAndDayAtMidnight() {
        CHECK.sentence(LAW, "now (the QUARTER of the day), day, tired, long, company, men, hall,");
        holdsAt("company 1 0 0 0", "now=0", 194, 0, 96, 192);
        holdsAt("company 1 0 0 0", "now=95", 194, 95, 191);
        holdsAt("company 1 0 0 0", "now>=96", 194);
        holdsAt("company 1 0 0 0", "day=0 and now>=94", 194, 94, 95);
        holdsAt("company 1 0 0 0", "day=1 and now<=1", 194, 96, 97);
        holdsAt("company 1 0 0 0", "day=2", 194, 192, 193);
    }

    private static void tiredAndLongAtTheirBounds() {
        CHECK.sentence(LAW, "now (the QUARTER of the day), day, tired, long, company, men, hall,");
        holdsAt("company 1 0 0 0", "tired=0", 5, 0);
        holdsAt("company 1 0 0 0", "tired>=3", 5, 3, 4);
        holdsAt("company 1 0 0 0", "long=0", 5, 0);
        holdsAt("company 1 0 0 0", "long=4", 9, 4);
        SleepWaves waves = Check.told("company 1 0 0 0;company 1 0 1 0;watch 2", "wake 1=0", "sleep tired=999", "sleep long=999",
            "sleep long>999 or tired>999");
        Check.tick(waves, 0, 998);
        CHECK.due("tired 998", 0, waves.ahead(1, 1, 1));
        CHECK.due("long 998", 0, waves.ahead(2, 1, 1));
        for (int i = 0; i < 3; i++) {
            waves.tick(0, 1);
            CHECK.due("tired 999", 1, waves.ahead(1, 1, 1));
            CHECK.due("long 999", 1, waves.ahead(2, 1, 1));
            CHECK.due("above 999", 0, waves.ahead(3, 1, 1));
        }
    }

    private static void whoseNumbersTheWordsAre() {
        CHECK.sentence(LAW, "now (the QUARTER of the day), day, tired, long, company, men, hall,");
        String[] most = {"company=11", "men=99", "hall=3", "snore=100"};
        String[] least = {"company=0", "men=1", "hall=0", "snore=0"};
        for (int i = 0; i < 4; i++) {
            SleepWaves waves = Check.told("company 1 0 0 0" + ";company 2 1 1 1".repeat(10) + ";company 99 3 2 100",
                "sleep " + most[i], "sleep " + least[i]);
            waves.tick(0, 1);
            CHECK.due(most[i], 2047, waves.log(1));
            waves.drum();
            waves.tick(1, 1);
            CHECK.due(least[i], 4094, waves.log(1));
        }
    }

    private static void menUpAsItIsThen() {
        CHECK.sentence(LAW, "up (MEN UP, as it is then)");
        CHECK.due("all up", true, holdsIn(TWELVE, "up=1188"));
        SleepWaves waves = Check.told("company 10 0 0 0;company 20 0 1 0;company 40 0 2 0", "sleep up=70 or up=60;wake up=40 or up=50",
            "sleep 1=1", "wake up=0");
        waves.tick(0, 1);
        CHECK.due("two lie down, and none is up to wake them", 4, waves.log(1));
        waves.tick(0, 1);
        CHECK.due("each that gets up counts for the next", 7, waves.log(1));
        waves.tick(1, 1);
        CHECK.due("MEN UP", 0, waves.count(5));
        waves.tick(2, 1);
        CHECK.due("the first one alone finds none up", 1, waves.log(1));
    }

    private static void theFirstBellOfThisQuarter() {
        CHECK.sentence(LAW, "bell (the tone of the first BELL of this QUARTER; 0 without), snore.");
        String barracks = "company 1 0 0 0;bell 3 9;bell 2 4;bell 3 1;bell 95 5;bell 0 6";
        holdsAt(barracks, "bell=9", 100, 3, 99);
        holdsAt(barracks, "bell=1", 100);
        holdsAt(barracks, "bell=4", 100, 2, 98);
        holdsAt(barracks, "bell=5", 100, 95);
        holdsAt(barracks, "bell=6", 100, 0, 96);
        holdsAt(barracks, "bell=0 and now<5", 100, 1, 4, 97);
        holdsAt("company 1 0 0 0", "bell=0", 3, 0, 1, 2);
    }

    private static void blanksAsOneLikes() {
        CHECK.sentence(LAW, "Blanks (32) stand between as one likes.");
        good("sleep1=1");
        good("  sleep  1  =  1  and  [  1  <=  1  ]  ;  wake  1  %  1  =  1  ");
        good("sleep 1=1and 1=1or 1=1;wake[1=1]and not[1=1]");
        holds("   2 +    3 * 4 = 14 ");
        for (char b = 0; b < 32; b++) {
            badAt(9, 0, "sleep 1=1" + b + "and 1=1");
        }
        badAt(9, 0, "sleep 1=1\u00a0and 1=1");
        bad(0, "^sle ep 1=1");
        bad(0, "sleep ^n ow=1");
        bad(0, "sleep 1 ^2=12");
        bad(0, "sleep 1> ^=1");
        bad(0, "sleep ^no t 1=1");
    }

    // ---- faults ----

    private static void noOtherByteCanStandThere() {
        CHECK.sentence(LAW, "FAULTS 0, 1 likewise; 2 too deep (at the sign that opens, or the word not);");
        for (char b = 0; b < 256; b++) {
            boolean isNothing = b == ' ' || b >= '0' && b <= '9';
            if (b != ' ') {
                badAt(0, 0, b + " 1=1");
            }
            if (isNothing) {
                good("sleep " + b + "1=1");
                good("sleep 1=1" + b);
                continue;
            }
            if (b != '[') {
                badAt(6, 0, "sleep " + b + "1=1");
            }
            if ("+-*/%<=>".indexOf(b) < 0) {
                badAt(7, 0, "sleep 1" + b + "1=1");
            }
            badAt("+-*/%;".indexOf(b) < 0 ? 9 : 10, 0, "sleep 1=1" + b);
        }
    }

    private static void tenDeepAtMost() {
        CHECK.sentence(LAW, "[ and not lie within one another 10 deep at most;");
        holds("[".repeat(10) + "1=1" + "]".repeat(10));
        holds("not ".repeat(10) + "1=1");
        holds("not[".repeat(5) + "1=0" + "]".repeat(5));
        holds("[not ".repeat(5) + "1=0" + "]".repeat(5));
        bad(2, "sleep " + "[".repeat(10) + "^[1=1");
        bad(2, "sleep " + "not ".repeat(10) + "^not 1=1");
        bad(2, "sleep " + "not[".repeat(5) + "^[1=1");
        bad(2, "sleep " + "not[".repeat(5) + "^not 1=1");
        bad(2, "sleep " + "[".repeat(9) + "not ^[1=1");
        bad(2, "sleep " + "not ".repeat(9) + "[^not 1=1");
    }

    private static void besideOneAnotherTheyAreNoDeeper() {
        CHECK.sentence(LAW, "[ and not lie within one another 10 deep at most;");
        String ten = "[".repeat(10) + "1=1" + "]".repeat(10);
        String nots = "not ".repeat(10) + "1=1";
        String mixed = "not[".repeat(5) + "1=0" + "]".repeat(5);
        for (String one : new String[] {ten, nots, mixed}) {
            for (String other : new String[] {ten, nots, mixed}) {
                holds(one + " and " + other);
                good("sleep " + one + " or " + other + ";wake " + other);
            }
            bad(2, "sleep " + one + " and " + "[".repeat(10) + "^[1=1");
            bad(2, "sleep " + one + ";wake " + "not ".repeat(10) + "^not 1=1");
        }
        holds("[".repeat(9) + "not 1=0 and not 1=0 or not 1=1" + "]".repeat(9));
        bad(2, "sleep " + "[".repeat(9) + "not 1=0 and [1=1] and not ^not 1=1");
        holds("not not not 1=0 and [[[1=1]] and " + "[".repeat(9) + "1=1" + "]".repeat(10));
        holds(Check.times(11, "not 1=0").replace(";", " and "));
        holds(Check.times(11, "[1=1]").replace(";", " and "));
    }

    private static void tooDeepAtWhatOpens() {
        CHECK.sentence(LAW, "2 too deep (at the sign that opens, or the word not);");
        bad(2, "sleep " + "[ ".repeat(10) + "  ^[");
        bad(2, "sleep " + "not ".repeat(10) + "  ^not");
        bad(0, "sleep " + "[".repeat(10) + "^x");
        bad(0, "sleep " + "[".repeat(10) + "^");
        bad(2, "sleep " + "[".repeat(10) + "^[x");
        bad(0, "sleep " + "not ".repeat(10) + "^nots 1=1");
    }

    /** A law's text whose VALUES and FACTS are so many; the first FACT is 0 = 0+0+.. */
    private static String sixty(String begin, int values) {
        return begin + "0=0" + "+0".repeat(values - 2);
    }

    private static void sixtyAtMost() {
        CHECK.sentence(LAW, "at most 60 VALUES (of SUMS) and FACTS made of a SIGN, together.");
        good(sixty("sleep ", 59));
        bad(3, sixty("sleep ", 59) + "+^0");
        String facts = "sleep 1=1" + " or 1=1".repeat(19);
        good(facts);
        bad(3, facts + " or ^1=1");
        bad(3, facts + ";wake ^1=1");
        holds("1=0" + " or 1=0".repeat(18) + " or 1=1");
        good("sleep 1=1" + ";sleep 1=1 or 1=1".repeat(9) + ";wake 1=1");
        bad(3, "sleep 1=1" + ";sleep 1=1 or 1=1".repeat(9) + ";wake 1=1 or ^1=1");
        // a WORD is a VALUE as a NUMBER is; what stands in brackets, not, and and or are none
        good("sleep up=0" + "+up".repeat(57));
        bad(3, "sleep up=0" + "+up".repeat(57) + "+^up");
        good("sleep not[not 1=1]" + " or not[[1=1]]".repeat(19));
        bad(3, "sleep not[not 1=1]" + " or not[[1=1]]".repeat(19) + " and not[^1=1]");
    }

    private static void oneTooManyAtItsPlace() {
        CHECK.sentence(LAW, "3 one VALUE or FACT too many (at its first byte; of a FACT at its SIGN);");
        bad(3, "sleep 0" + "+0".repeat(59) + "^=0");
        bad(3, "sleep 0" + "+0".repeat(58) + "=^0");
        bad(3, "sleep 0" + "+0".repeat(59) + "  ^<=  0");
        bad(3, "sleep 0" + "+0".repeat(59) + "+ ^company=0");
        bad(3, "sleep 1=1" + " or 1=1".repeat(19) + " and [ not ^12=0");
    }

    private static void ofOnePlaceTheLeast() {
        CHECK.sentence(LAW, "Of one place the least.");
        bad(0, "sleep 0" + "+0".repeat(59) + "+^x=0");
        bad(1, "sleep 0" + "+0".repeat(59) + "+^123456=0");
        bad(0, "sleep 0" + "+0".repeat(59) + "^;");
        bad(0, "sleep 0" + "+0".repeat(59) + "^");
        bad(0, Check.times(12, "wake 1=1") + ";^");
        bad(0, Check.times(12, "wake 1=1") + ";^x");
        bad(0, Check.times(12, "wake 1=1") + ";^;");
        bad(0, Check.times(12, "wake 1=1") + ";^1=1");
        bad(0, "sleep 1=1 ^999999");
    }

    private static void theThirteenthAtItsFirstByte() {
        CHECK.sentence(LAW, "4 a thirteenth CLAUSE (at its first byte).");
        bad(4, Check.times(12, "wake 1=1") + ";^wake 1=1");
        bad(4, Check.times(12, "wake 1=1") + ";   ^sleep");
        bad(4, Check.times(12, "wake 1=1") + "  ;^wake x");
        good(Check.times(12, "wake 1=1") + "  ");
    }

    private static void theFirstAlongTheText() {
        CHECK.sentence(LAW, "FAULTS, the first along the text, 1 + 8 * its place and:");
        bad(1, "sleep ^123456=x;");
        bad(0, "sleep 1=^x;sleep 123456=1");
        bad(2, "sleep " + "[".repeat(10) + "^[x=123456");
        bad(1, "sleep ^123456=1" + ";wake 1=1".repeat(12));
    }

    public static void main(String[] args) {
        theTapeIsEmptyThen();
        aFaultMakesNoLaw();
        behindAFaultTheNextLawBeginsAnew();
        sixLawsEachWithItsNumber();
        aSeventhLawChangesNothing();
        lawsStayBehindBarracks();
        twelveClausesAtMost();
        clausesAtLeastOne();
        fourHundredBytes();
        someClauseHolds();
        orAndAndNot();
        bracketsHoldTestsAlone();
        signsAtEqualSums();
        sumsGoFromTheLeft();
        quotientsGoTowardsNought();
        byNoughtAllIsNought();
        allGoesRoundInSixtyFourBits();
        numbersOfOneToFiveDigits();
        wordsAsFarAsLettersGo();
        nowAndDayAtMidnight();
        tiredAndLongAtTheirBounds();
        whoseNumbersTheWordsAre();
        menUpAsItIsThen();
        theFirstBellOfThisQuarter();
        blanksAsOneLikes();
        noOtherByteCanStandThere();
        tenDeepAtMost();
        besideOneAnotherTheyAreNoDeeper();
        tooDeepAtWhatOpens();
        sixtyAtMost();
        oneTooManyAtItsPlace();
        ofOnePlaceTheLeast();
        theThirteenthAtItsFirstByte();
        theFirstAlongTheText();
        CHECK.end();
    }
}
