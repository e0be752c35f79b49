/** Promises 15 to 18: mutinies and dreams. */
public final class GossipTest {
    private static final Check CHECK = new Check("gossip");

    /** 0 and 1 share a hall, 0 and 2 a bed, 2 and 3 a hall; 4 is alone. Men tell who is of it. */
    private static SleepWaves chain() {
        return Check.told("company 1 0 0 0;company 2 0 1 0;company 4 1 0 0;company 8 1 3 0;company 16 2 4 0",
            "sleep now<0", "wake now=2 and company=1;wake now=3 and company=3");
    }

    private static void mutinies() {
        SleepWaves waves = chain();
        int[] first = {1, 3, 7, 15, 15, 15};
        for (int n = 0; n < first.length; n++) {
            CHECK.due("mutiny(0, 0, 0, " + n + ")", first[n], waves.mutiny(0, 0, 0, n));
            CHECK.due("mutiny(0, 0, 96, " + n + ")", first[n], waves.mutiny(0, 0, 96, n));
        }
        CHECK.due("mutiny(0, 4, 0, 96)", 16, waves.mutiny(0, 4, 0, 96));
        int[] third = {4, 5, 15};
        for (int n = 0; n < third.length; n++) {
            CHECK.due("mutiny(0, 2, 0, " + n + ")", third[n], waves.mutiny(0, 2, 0, n));
        }
        SleepWaves hall = Check.told("company 1 0 0 0;company 2 0 1 0;company 4 0 2 0;company 8 0 3 0;company 16 0 4 0",
            "sleep now<0");
        int[] doubled = {8, 9, 15, 31};
        for (int n = 0; n < doubled.length; n++) {
            // won ahead in the same quarter: not won again, and not yet winning
            CHECK.due("mutiny(0, 3, 0, " + n + ")", doubled[n], hall.mutiny(0, 3, 0, n));
        }
    }

    private static void mutiniesAsleep() {
        SleepWaves waves = chain();
        waves.lie(1, true);
        CHECK.due("who sleeps is not won", 1 + 4, waves.mutiny(0, 0, 0, 1));
        CHECK.due("who sleeps is not won, ever", 1 + 4 + 8, waves.mutiny(0, 0, 0, 96));
        CHECK.due("who sleeps does not win", 2, waves.mutiny(0, 1, 0, 96));
        CHECK.due("won when it is up", 1 + 4 + 8, waves.mutiny(1, 0, 0, 2));
        CHECK.due("won when it is up", 15, waves.mutiny(1, 0, 0, 3));
        CHECK.due("begun then", 3, waves.mutiny(1, 0, 2, 1));
        CHECK.due("begun ahead of it", 5, waves.mutiny(1, 0, 1, 1));
        CHECK.due("asleep till then", 2 + 1, waves.mutiny(1, 1, 0, 3));
        SleepWaves bed = Check.told("company 1 0 0 0;company 2 1 0 0", "sleep now<0");
        bed.lie(1, true);
        CHECK.due("asleep in the same bed", 1, bed.mutiny(0, 0, 0, 9));
    }

    private static void wrongMutinies() {
        SleepWaves waves = chain();
        CHECK.due("mutiny(-1, 0, 0, 0)", -1, waves.mutiny(-1, 0, 0, 0));
        CHECK.due("mutiny(2, 0, 0, 0)", -1, waves.mutiny(2, 0, 0, 0));
        CHECK.due("mutiny(0, 5, 0, 0)", -1, waves.mutiny(0, 5, 0, 0));
        CHECK.due("mutiny(0, -1, 0, 0)", -1, waves.mutiny(0, -1, 0, 0));
        CHECK.due("mutiny(0, 0, -1, 0)", -1, waves.mutiny(0, 0, -1, 0));
        CHECK.due("mutiny(0, 0, 97, 0)", -1, waves.mutiny(0, 0, 97, 0));
        CHECK.due("mutiny(0, 0, 0, -1)", -1, waves.mutiny(0, 0, 0, -1));
        CHECK.due("mutiny(0, 0, 0, 97)", -1, waves.mutiny(0, 0, 0, 97));
        CHECK.due("mutiny(0, 0, 96, 96)", 15, waves.mutiny(0, 0, 96, 96));
    }

    private static void crests() {
        SleepWaves waves = chain();
        CHECK.due("of several the least", 0, waves.crest(0, 0, 3, 96, 0));
        CHECK.due("MEN", 15, waves.crest(0, 0, 3, 96, 1));
        CHECK.due("none won", 0, waves.crest(0, 0, 0, 96, 0));
        CHECK.due("none won", 1, waves.crest(0, 0, 0, 96, 1));
        waves.lie(1, true);
        waves.lie(3, true);
        waves.lie(2, true);
        CHECK.due("1 is up at 2", 2, waves.crest(1, 0, 1, 5, 0));
        CHECK.due("1 is up at 2", 3, waves.crest(1, 0, 1, 5, 1));
        CHECK.due("1 is up at 2", 1, waves.crest(1, 0, 2, 5, 0));
        CHECK.due("begun too early", 0, waves.crest(1, 0, 1, 2, 0));
        CHECK.due("begun too early", 1, waves.crest(1, 0, 1, 2, 1));
        CHECK.due("the last b", 2, waves.crest(1, 0, 1, 3, 0));
        CHECK.due("crest(1, 0, 48, 96, 1)", 3, waves.crest(1, 0, 48, 96, 1));
        CHECK.due("crest(2, 0, 1, 1, 0)", -1, waves.crest(2, 0, 1, 1, 0));
        CHECK.due("crest(0, 5, 1, 1, 0)", -1, waves.crest(0, 5, 1, 1, 0));
        CHECK.due("crest(0, 0, -1, 1, 0)", -1, waves.crest(0, 0, -1, 1, 0));
        CHECK.due("crest(0, 0, 49, 1, 0)", -1, waves.crest(0, 0, 49, 1, 0));
        CHECK.due("crest(0, 0, 1, 0, 0)", -1, waves.crest(0, 0, 1, 0, 0));
        CHECK.due("crest(0, 0, 1, 97, 0)", -1, waves.crest(0, 0, 1, 97, 0));
        CHECK.due("crest(0, 0, 1, 1, 2)", -1, waves.crest(0, 0, 1, 1, 2));
        CHECK.due("crest(0, 0, 1, 1, -1)", -1, waves.crest(0, 0, 1, 1, -1));
    }

    /** 1 sleeps in the bed that it shares with 2, which is up in the hall of 3. */
    private static SleepWaves dreamers() {
        SleepWaves waves = Check.told("company 1 0 0 0;company 1 0 1 0;company 1 1 1 0;company 1 1 3 0",
            "sleep now<0", "wake now=1");
        waves.lie(1, true);
        return waves;
    }

    private static void dreams() {
        SleepWaves waves = dreamers();
        CHECK.due("dream(0, 1, 0)", 2, waves.dream(0, 1, 0));
        CHECK.due("by the bed", 6, waves.dream(0, 1, 1));
        CHECK.due("by the hall", 14, waves.dream(0, 1, 2));
        CHECK.due("no farther", 14, waves.dream(0, 1, 96));
        CHECK.due("the hall, and behind it the bed", 14, waves.dream(0, 3, 1));
        CHECK.due("none up there", 1, waves.dream(0, 0, 96));
        CHECK.due("1 is up then", 14, waves.dream(1, 3, 1));
        CHECK.due("1 is up then", 15, waves.dream(1, 3, 2));
        CHECK.due("told(0, 1, 1, 0)", 0, waves.told(0, 1, 1, 0));
        CHECK.due("told(0, 1, 2, 9)", 1, waves.told(0, 1, 2, 9));
        CHECK.due("told(0, 1, 3, 9)", 2, waves.told(0, 1, 3, 9));
        CHECK.due("told(0, 1, 3, 2)", 2, waves.told(0, 1, 3, 2));
        CHECK.due("told(0, 1, 3, 1)", -2, waves.told(0, 1, 3, 1));
        CHECK.due("told(0, 1, 0, 96)", -2, waves.told(0, 1, 0, 96));
        CHECK.due("told(1, 1, 0, 96)", 2, waves.told(1, 1, 0, 96));
        SleepWaves asleep = dreamers();
        asleep.lie(3, true);
        CHECK.due("who sleeps tells none in its hall", 8, asleep.dream(0, 3, 5));
        CHECK.due("who sleeps is told by none in its hall", 6, asleep.dream(0, 2, 5));
    }

    private static void wrongDreams() {
        SleepWaves waves = dreamers();
        CHECK.due("dream(2, 0, 0)", -1, waves.dream(2, 0, 0));
        CHECK.due("dream(-1, 0, 0)", -1, waves.dream(-1, 0, 0));
        CHECK.due("dream(0, 4, 0)", -1, waves.dream(0, 4, 0));
        CHECK.due("dream(0, -1, 0)", -1, waves.dream(0, -1, 0));
        CHECK.due("dream(0, 0, -1)", -1, waves.dream(0, 0, -1));
        CHECK.due("dream(0, 0, 97)", -1, waves.dream(0, 0, 97));
        CHECK.due("told(2, 0, 0, 0)", -1, waves.told(2, 0, 0, 0));
        CHECK.due("told(0, 4, 0, 0)", -1, waves.told(0, 4, 0, 0));
        CHECK.due("told(0, 0, 4, 0)", -1, waves.told(0, 0, 4, 0));
        CHECK.due("told(0, 0, -1, 0)", -1, waves.told(0, 0, -1, 0));
        CHECK.due("told(0, 0, 0, -1)", -1, waves.told(0, 0, 0, -1));
        CHECK.due("told(0, 0, 0, 97)", -1, waves.told(0, 0, 0, 97));
    }

    public static void main(String[] args) {
        mutinies();
        mutiniesAsleep();
        wrongMutinies();
        crests();
        dreams();
        wrongDreams();
        CHECK.end();
    }
}
