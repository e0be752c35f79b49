/** Promises 1 to 4: a new object, feed, end, barracks. */
public final class TapeTest {
    private static final Check CHECK = new Check("tape and barracks");

    private static void newObject() {
        SleepWaves waves = new SleepWaves();
        for (int what = 0; what <= 13; what++) {
            CHECK.due("new count(" + what + ")", what == 7 ? -2 : 0, waves.count(what));
        }
        CHECK.due("new company(0, 0)", -1, waves.company(0, 0));
        CHECK.due("new why(0, 0)", -2, waves.why(0, 0));
        CHECK.due("new lie(0, true)", false, waves.lie(0, true));
        CHECK.due("new tires(0, 0)", -1, waves.tires(0, 0));
        CHECK.due("new tick(0, 1)", -1, waves.tick(0, 1));
        CHECK.due("new ahead(0, 0, 0)", -1, waves.ahead(0, 0, 0));
        CHECK.due("new drum()", 0, waves.drum());
        CHECK.due("new log(1)", -1, waves.log(1));
        CHECK.due("new run(0)", -1, waves.run(0));
        CHECK.due("new both(0, 1)", -1, waves.both(0, 1));
        CHECK.due("new just(0, 0)", 0, waves.just(0, 0));
        CHECK.due("new just(0, 1)", -2, waves.just(0, 1));
        CHECK.due("new just(1, 0)", -1, waves.just(1, 0));
        CHECK.due("new bestLaw(0)", -2, waves.bestLaw(0));
        CHECK.due("new bestLaw(193)", -1, waves.bestLaw(193));
        CHECK.due("new back(0)", -1, waves.back(0));
    }

    private static void feedAndEnd() {
        SleepWaves waves = new SleepWaves();
        CHECK.due("end(0) of nothing", 0, waves.end(0));
        CHECK.due("end(1) of nothing", -1, waves.end(1));
        CHECK.due("end(-1)", -1, waves.end(-1));
        for (int i = 1; i <= 20; i++) {
            CHECK.due("feed " + i, 20 * i, waves.feed(0, 0, 0, 0, 0));
        }
        CHECK.due("feed 21", -1, waves.feed(0, 0, 0, 0, 0));
        CHECK.due("count(12)", 400, waves.count(12));
        CHECK.due("end(401)", -1, waves.end(401));
        CHECK.due("end(381)", 381, waves.end(381));
        CHECK.due("feed behind 381", -1, waves.feed(0, 0, 0, 0, 0));
        CHECK.due("count(12)", 381, waves.count(12));
        CHECK.due("end(380)", 380, waves.end(380));
        CHECK.due("feed behind 380", 400, waves.feed(0, 0, 0, 0, 0));
        CHECK.due("end(3)", 3, waves.end(3));
        CHECK.due("end(4)", -1, waves.end(4));
        CHECK.due("end(-1)", -1, waves.end(-1));
        CHECK.due("count(12)", 3, waves.count(12));
        CHECK.due("feed behind 3", 23, waves.feed(0, 0, 0, 0, 0));
        CHECK.due("end(0)", 0, waves.end(0));
        // "watch 7" byte by byte over the edges of the numbers, the highest byte first
        CHECK.due("feed", 20, waves.feed(0x77617463, 0x68203720, 0x20202020, 0x20202020, 0x20202020));
        CHECK.due("barracks()", 0, waves.barracks());
        CHECK.due("count(13)", 7, waves.count(13));
        // bytes above 127 are bytes, too: no sign can make a letter of them
        waves.feed(0xf7e1f4e3, 0xe8a0b7a0, -1, -1, -1);
        CHECK.due("barracks() of high bytes", -3, waves.barracks());
    }

    private static void fault(int place, int kind, String text) {
        SleepWaves waves = Check.told("company 9 2 7 3;bell 5 5;duty 0 1 2;watch 8", "sleep now=0");
        waves.tick(0, 2);
        CHECK.due("fault of '" + text + "'", -2 - (1 + 8 * place + kind), Check.barracks(waves, text));
        CHECK.due("tape behind a fault", 0, waves.count(12));
        CHECK.due("companies behind a fault", 1, waves.count(0));
        CHECK.due("bells behind a fault", 1, waves.count(1));
        CHECK.due("duties behind a fault", 1, waves.count(2));
        CHECK.due("NOW behind a fault", 2, waves.count(4));
        CHECK.due("fails behind a fault", 1, waves.count(6));
        CHECK.due("log behind a fault", 2, waves.count(10));
        CHECK.due("watch behind a fault", 8, waves.count(13));
        CHECK.due("men behind a fault", 9, waves.company(0, 3));
    }

    private static void faultsOfBytesAndWords() {
        fault(0, 0, "");
        fault(3, 0, "   ");
        fault(0, 0, "Company 1 0 0 0");
        fault(0, 0, "companys 1 0 0 0");
        fault(0, 0, "companyz 1 0 0 0");
        fault(0, 0, "dompany 1 0 0 0");
        fault(0, 0, "compan 1 0 0 0");
        fault(0, 0, "sleep 1 0 0 0");
        fault(0, 0, "7");
        fault(0, 0, ";watch 1");
        fault(1, 0, " ;watch 1");
        fault(7, 0, "company");
        fault(9, 0, "company  ");
        fault(7, 0, "company;");
        fault(8, 0, "company x");
        fault(8, 0, "company -1 0 0 0");
        fault(14, 0, "company 1 0 0 ");
        fault(13, 0, "company 1 0 0;watch 1");
        fault(16, 0, "company 1 0 0 0 0");
        fault(16, 0, "company 1 0 0 0 999999");
        fault(15, 0, "company 1 0 0 0watch 1");
        fault(8, 0, "watch 1;");
        fault(10, 0, "watch 1;  ");
        fault(8, 0, "watch 1;;");
        fault(8, 0, "watch 1 watch 1");
        fault(7, 0, "watch 1\u0000");
        fault(7, 0, "watch 1\n");
        fault(7, 0, "watch 1\u00e9");
        fault(7, 0, "watch 1.0");
        fault(6, 0, "bell 1");
        fault(6, 0, "bell 1;watch 1");
        fault(5, 0, "watch");
    }

    private static void faultsOfNumbers() {
        fault(8, 1, "company 0 0 0 0");
        fault(8, 1, "company 100 0 0 0");
        fault(8, 1, "company 000001 0 0 0");
        fault(8, 1, "company 99999999999999999999 0 0 0");
        fault(10, 1, "company 1 4 0 0");
        fault(12, 1, "company 1 0 12 0");
        fault(14, 1, "company 1 0 0 101");
        fault(8, 1, "company 0 x");
        fault(5, 1, "bell 96 1");
        fault(7, 1, "bell 0 0");
        fault(7, 1, "bell 0 10");
        fault(6, 1, "watch 1201");
        fault(6, 1, "watch 99999");
        fault(6, 1, "watch 000000");
        fault(5, 1, "duty 0 1 2");
        fault(21, 1, "company 1 0 0 0;duty 1 1 2");
        fault(5, 1, "duty 0 1 2;company 1 0 0 0");
        fault(23, 1, "company 1 0 0 0;duty 0 96 96");
        fault(25, 1, "company 1 0 0 0;duty 0 5 4");
        fault(25, 1, "company 1 0 0 0;duty 0 5 96");
    }

    private static void faultsOfTooMany() {
        fault(16 * 12, 4, Check.times(13, "company 1 0 0 0"));
        fault(16 * 12 + 1, 4, Check.times(12, "company 1 0 0 0") + "; company 0");
        fault(9 * 8, 4, Check.times(9, "bell 1 1"));
        String duties = "company 1 0 0 0;" + Check.times(9, "duty 0 1 1");
        fault(16 + 11 * 8, 4, duties);
        fault(8, 4, "watch 1;watch 1");
        fault(10, 4, "watch 0 ; watch 0");
        fault(8, 0, "watch 1;watches 1");
        String eight = Check.times(8, "company 1 0 0 0") + ";" + Check.times(8, "bell 1 1") + ";" + Check.times(8, "duty 0 1 1");
        CHECK.due("24 clauses", 8, Check.barracks(new SleepWaves(), eight));
        fault(eight.length() + 1, 4, eight + ";watch 1");
        fault(eight.length() + 1, 4, eight + ";bell");
        fault(eight.length() + 1, 0, eight + ";x");
        fault(eight.length() + 1, 0, eight + ";");
    }

    private static void goodOnes() {
        SleepWaves waves = new SleepWaves();
        CHECK.due("widest", 2, Check.barracks(waves,
            "company 1 0 0 0;company 99 3 11 100;bell 0 1;bell 95 9;duty 1 0 0;duty 0 95 95;duty 1 0 95;watch 1200"));
        for (int what = 3; what <= 6; what++) {
            CHECK.due("company(0, " + what + ")", what == 3 ? 1 : 0, waves.company(0, what));
        }
        CHECK.due("company(1, 3)", 99, waves.company(1, 3));
        CHECK.due("company(1, 4)", 3, waves.company(1, 4));
        CHECK.due("company(1, 5)", 11, waves.company(1, 5));
        CHECK.due("company(1, 6)", 100, waves.company(1, 6));
        CHECK.due("count(0)", 2, waves.count(0));
        CHECK.due("count(1)", 2, waves.count(1));
        CHECK.due("count(2)", 3, waves.count(2));
        CHECK.due("count(5)", 100, waves.count(5));
        CHECK.due("count(13)", 1200, waves.count(13));
        CHECK.due("blanks", 1, Check.barracks(waves, "  company1 0  0 00000;watch0  ;  bell 1 00009 "));
        CHECK.due("count(13)", 0, waves.count(13));
        CHECK.due("count(1)", 1, waves.count(1));
        CHECK.due("count(2)", 0, waves.count(2));
        CHECK.due("no company", 0, Check.barracks(waves, "bell 1 1"));
        CHECK.due("count(0)", 0, waves.count(0));
        CHECK.due("twelve", 12, Check.barracks(waves, Check.times(12, "company 99 0 0 0")));
        CHECK.due("count(5)", 1188, waves.count(5));
        String full = Check.times(12, "company 1 0 0 0") + ";";
        StringBuilder wide = new StringBuilder(full);
        while (wide.length() < 393) {
            wide.append(' ');
        }
        CHECK.due("400 bytes", 12, Check.barracks(waves, wide + "watch 5"));
        CHECK.due("count(13)", 5, waves.count(13));
    }

    private static void allAsAtFirst() {
        SleepWaves waves = Check.told("company 5 0 0 100;company 6 0 1 0;watch 9", "sleep now<2");
        waves.tick(0, 3);
        waves.feast(50);
        waves.tires(0, 77);
        waves.lie(0, false);
        waves.seed(4711);
        waves.image(2);
        CHECK.due("again", 2, Check.barracks(waves, "company 5 0 0 100;company 6 0 0 0;watch 9"));
        int[] due = {2, 0, 0, 1, 0, 11, 0, -2, 0, 0, 0, 4711, 0, 9};
        for (int what = 0; what < due.length; what++) {
            CHECK.due("count(" + what + ") behind barracks", due[what], waves.count(what));
        }
        CHECK.due("company(0, 0)", 0, waves.company(0, 0));
        CHECK.due("company(0, 1)", 0, waves.company(0, 1));
        CHECK.due("company(0, 2)", 0, waves.company(0, 2));
        CHECK.due("why(0, 0)", 0, waves.why(0, 0));
        CHECK.due("why(0, 1)", 0, waves.why(0, 1));
        CHECK.due("why(0, 2)", -1, waves.why(0, 2));
        CHECK.due("log(1)", -1, waves.log(1));
        CHECK.due("nothing warm", 0, waves.ahead(0, 1, 4));
        CHECK.due("the image stays", 3, waves.back(2));
        CHECK.due("its bed", 1, waves.company(1, 5));
    }

    public static void main(String[] args) {
        newObject();
        feedAndEnd();
        faultsOfBytesAndWords();
        faultsOfNumbers();
        faultsOfTooMany();
        goodOnes();
        allAsAtFirst();
        CHECK.end();
    }
}
