/** Promise 5: the language of laws, its faults, and what its tests mean. */
public final class LawTest {
    private static final Check CHECK = new Check("law");

    private static void fault(int place, int kind, String text) {
        SleepWaves waves = new SleepWaves();
        CHECK.due("fault of '" + text + "'", -2 - (1 + 8 * place + kind), Check.law(waves, text));
        CHECK.due("laws behind a fault", 0, waves.count(3));
        CHECK.due("tape behind a fault", 0, waves.count(12));
        CHECK.due("a law behind a fault", 0, Check.law(waves, "wake 1=1"));
    }

    private static void good(String text) {
        CHECK.due("law '" + text + "'", 0, Check.law(new SleepWaves(), text));
    }

    private static void faultsOfBytesAndWords() {
        fault(0, 0, "");
        fault(2, 0, "  ");
        fault(0, 0, "lie now=1");
        fault(0, 0, "sleeps now=1");
        fault(0, 0, "[now=1]");
        fault(5, 0, "sleep");
        fault(6, 0, "sleep ");
        fault(5, 0, "sleep;wake 1=1");
        fault(7, 0, "sleep 1");
        fault(8, 0, "sleep 1=");
        fault(9, 0, "sleep 1=1x=1");
        fault(10, 0, "sleep 1=1;");
        fault(12, 0, "sleep 1=1;  ");
        fault(10, 0, "sleep 1=1;1=1");
        fault(10, 0, "sleep 1=1 wake 1=1");
        fault(9, 0, "sleep 1=1]");
        fault(9, 0, "sleep 1=1[");
        fault(9, 0, "sleep 1=1=1");
        fault(9, 0, "sleep 1=1<1");
        fault(11, 0, "sleep 1=1+ =1");
        fault(8, 0, "sleep 1==1");
        fault(8, 0, "sleep 1=<1");
        fault(8, 0, "sleep 1<>1");
        fault(9, 0, "sleep 1< =1");
        fault(6, 0, "sleep -1=1");
        fault(8, 0, "sleep 1+-1=1");
        fault(9, 0, "sleep 1+1");
        fault(10, 0, "sleep 1+1 and 1=1");
        fault(10, 0, "sleep [1+1]=2");
        fault(6, 0, "sleep ]");
        fault(7, 0, "sleep []");
        fault(10, 0, "sleep [1=1");
        fault(10, 0, "sleep [1=1;wake 1=1");
        fault(12, 0, "sleep [[1=1]");
        fault(11, 0, "sleep [1=1]]");
        fault(11, 0, "sleep [1=1]=1");
        fault(11, 0, "sleep [1=1]+1=1");
        fault(14, 0, "sleep not[1=1]*1=1");
        fault(12, 0, "sleep [1=1] 1=1");
        fault(9, 0, "sleep not");
        fault(10, 0, "sleep not and 1=1");
        fault(14, 0, "sleep 1=1 and or 1=1");
        fault(13, 0, "sleep 1=1 and");
        fault(12, 0, "sleep 1=1 or");
        fault(14, 0, "sleep 1=1 and and 1=1");
        fault(6, 0, "sleep and 1=1");
        fault(10, 0, "sleep 1=1 xor 1=1");
        fault(6, 0, "sleep bed=1");
        fault(6, 0, "sleep asleep=1");
        fault(6, 0, "sleep nows=1");
        fault(6, 0, "sleep nowz=1");
        fault(6, 0, "sleep zow=1");
        fault(6, 0, "sleep bow=1");
        fault(0, 0, "xake now=1");
        fault(6, 0, "sleep notnow=1");
        fault(9, 0, "sleep now1=1");
        fault(8, 0, "sleep 1 1=1");
        fault(6, 0, "sleep sleep=1");
        fault(6, 0, "sleep Now=1");
        fault(9, 0, "sleep now!1");
        fault(9, 0, "sleep now\u0000=1");
        fault(9, 0, "sleep now\t=1");
        fault(11, 0, "sleep now=1\u00bd");
        fault(7, 0, "sleep 1(1");
    }

    private static void faultsOfNumbers() {
        fault(6, 1, "sleep 100000=1");
        fault(6, 1, "sleep 000000=1");
        fault(10, 1, "sleep now=123456");
        fault(10, 1, "sleep now=12345678901234567890");
        fault(9, 0, "sleep now123456");
        good("sleep 99999=00000");
    }

    private static void faultsOfDepth() {
        good("sleep [[[[[[[[[[1=1]]]]]]]]]]");
        fault(16, 2, "sleep [[[[[[[[[[[1=1");
        good("wake not not not not not not not not not not 1=1");
        fault(45, 2, "wake not not not not not not not not not not not 1=1");
        fault(45, 2, "wake not not not not not not not not not not [1=1]");
        good("wake not[not[not[not[not[1=1]]]]] and not[not[not[not[not[1=1]]]]]");
        fault(25, 2, "wake not[not[not[not[not[not 1=1]]]]]");
        good("wake [not 1=1 and not 1=1 and not 1=1 and not 1=1 or not 1=1 or not 1=1 or not [1=1] or not 1=1 "
            + "or not 1=1 and not 1=1 or not 1=1 and not 1=1];wake not[not[not[not[not[1=1]]]]]");
        fault(30, 2, "sleep [[[[[[[[[[1=1]and[1=1 or[1=1");
    }

    private static String sums(int values, String tail) {
        StringBuilder text = new StringBuilder("sleep 0");
        for (int i = 1; i < values; i++) {
            text.append("+0");
        }
        return text + tail;
    }

    private static void faultsOfMany() {
        good(sums(58, "=0"));                        // 58 + 1 + 1
        fault(6 + 118, 3, sums(59, "=0"));           // the second VALUE is the 61st
        fault(6 + 119, 3, sums(60, "=0"));           // the SIGN is the 61st
        fault(6 + 120, 3, sums(61, "=0"));
        fault(6 + 120, 0, sums(60, "+x=0"));         // of one place the least
        fault(6 + 120, 1, sums(60, "+123456=0"));
        StringBuilder twelve = new StringBuilder();
        for (int i = 0; i < 12; i++) {
            twelve.append(i == 0 ? "" : ";").append(i % 2 == 0 ? "sleep 1+1=2" : "wake 1+ 1=2");
        }
        good(twelve.toString());
        fault(twelve.length() + 1, 4, twelve + ";wake 1=1");
        fault(twelve.length() + 2, 4, twelve + "; sleep");
        fault(twelve.length() + 1, 0, twelve + ";");
        fault(twelve.length() + 1, 0, twelve + ";x");
        // 60 are counted over all clauses: 15 facts of 4
        StringBuilder fifteen = new StringBuilder("sleep up+1=2");
        for (int i = 1; i < 15; i++) {
            fifteen.append(i % 5 == 0 ? ";wake up+1=2" : " or up+1=2");
        }
        good(fifteen.toString());
        fault(fifteen.length() + 6, 3, fifteen + ";wake 1=1");
        fault(fifteen.length() + 6, 0, fifteen + ";wake =1");
    }

    private static void numbersOfLaws() {
        SleepWaves waves = new SleepWaves();
        for (int i = 0; i < 6; i++) {
            CHECK.due("law " + i, i, Check.law(waves, "wake 1=1"));
        }
        Check.feed(waves, "wake 1=1");
        CHECK.due("a seventh", -1, waves.law());
        CHECK.due("its tape stays", 8, waves.count(12));
        CHECK.due("count(3)", 6, waves.count(3));
        waves.end(0);
        CHECK.due("a seventh of nothing", -1, waves.law());
    }

    /** Whether a sleep TEST holds for company 1 of four, tired 7, in the quarter told. */
    private static boolean holds(String test, int now) {
        SleepWaves waves = Check.told("company 11 3 0 0;company 22 2 1 44;company 33 1 2 0;company 40 0 3 0;"
            + "bell 5 8;bell 5 9;bell 7 1", "wake 1=0", "sleep company=1 and [" + test + "]");
        for (int done = 0; done < now; done += Math.min(96, now - done)) {
            waves.tick(0, Math.min(96, now - done));
        }
        waves.tires(1, 7);
        waves.tick(1, 1);
        CHECK.due("only company 1", 0, waves.company(0, 0) + waves.company(2, 0) + waves.company(3, 0));
        return waves.company(1, 0) == 1;
    }

    private static void always(String test) {
        CHECK.due("'" + test + "'", true, holds(test, 0));
        CHECK.due("'not [" + test + "]'", false, holds("not [" + test + "]", 0));
    }

    private static void sumsAndSigns() {
        String[] all = {"1<2", "1<=2", "2<=2", "2=2", "2>=2", "3>=2", "3>2", "not 2<2", "not 3<2", "not 3<=2", "not 1=2",
            "not 2=1", "not 1>=2", "not 2>2", "not 1>2",
            "2+3*4=14", "2*3+4=10", "10-3-2=5", "10-3+2=9", "100/10/2=5", "100/10*2=20", "7%4*2=6", "2*7%4=2",
            "10-2*3=4", "7/2=3", "7%2=1", "5/0=0", "5%0=0", "0/0=0", "5-6<0", "5-6+1=0", "0-0=0",
            "1 + 2 = 3", "1+2=3", "00012=12", "99999+1>99999", "99999*99999=99999*99999",
            // 60000 to the fourth goes round below 0
            "60000*60000*60000*60000<0", "60000*60000*60000*60000/7*7>60000*60000*60000*60000",
            "60000*60000*60000*60000%7<0", "60000*60000*60000<99999*60000*60000",
            "60000*60000*60000*60000/0=0", "60000*60000*60000*60000%0=0",
            // 2 to the 63rd, the least of all, by less than nothing
            "32768*32768*32768*32768*8<0", "32768*32768*32768*32768*8-1>0",
            "32768*32768*32768*32768*8=0-32768*32768*32768*32768*8", "32768*32768*32768*32768*16=0"};
        for (String test : all) {
            always(test);
        }
    }

    private static void factsAndParts() {
        String t = "1=1";
        String f = "1=0";
        always(t + " or " + f);
        always(f + " or " + t);
        always("not " + f + " and " + t);
        always("not [" + f + " and " + t + "]");
        always("not [" + f + " or " + f + "]");
        always(t + " or " + f + " and " + f);
        always(f + " and " + f + " or " + t);
        always("[" + t + " or " + f + "] and " + t);
        always("not [[" + t + " or " + f + "] and " + f + "]");
        always("not " + f + " or " + f);
        always("not not " + t);
        always("not not not " + f);
        always("not[not[" + t + "]]and[[" + t + "]or " + f + "]");
        always(t + " and " + t + " and " + t);
        always(f + " or " + f + " or " + t);
        always("not [" + t + " and " + t + " and " + f + "]");
    }

    private static void words() {
        always("now=0 and day=0 and tired=7 and long=0 and company=1 and men=22 and hall=2 and up=106 and bell=0 and snore=44");
        CHECK.due("now, day", true, holds("now=95 and day=0 and long=95", 95));
        CHECK.due("now, day", true, holds("now=0 and day=1 and long=96", 96));
        CHECK.due("now, day", true, holds("now=8 and day=2 and long=200", 200));
        CHECK.due("first bell", true, holds("bell=8", 5));
        CHECK.due("no bell", true, holds("bell=0", 6));
        CHECK.due("another bell", true, holds("bell=1", 7));
        CHECK.due("next day's bell", true, holds("bell=8", 101));
    }

    private static void severalClauses() {
        SleepWaves waves = Check.told("company 1 0 0 0;company 1 0 1 0;company 1 0 2 0",
            "sleep company=0;wake 1=0;sleep company=2;wake company=2 and now=1;wake now=2 and company=0");
        waves.tick(0, 1);
        CHECK.due("some sleep TEST", 2, waves.log(1));
        waves.tick(0, 1);
        CHECK.due("some wake TEST", 6, waves.log(1));
        waves.tick(0, 1);
        CHECK.due("some other wake TEST", 3, waves.log(1));
    }

    public static void main(String[] args) {
        faultsOfBytesAndWords();
        faultsOfNumbers();
        faultsOfDepth();
        faultsOfMany();
        numbersOfLaws();
        sumsAndSigns();
        factsAndParts();
        words();
        severalClauses();
        CHECK.end();
    }
}
