/** What the tests share: texts are fed, answers compared, and the wrong ones printed. */
final class Check {
    private final String of;
    private int asked = 0;
    private int wrong = 0;

    Check(String of) {
        this.of = of;
    }

    void due(String call, long want, long got) {
        asked++;
        if (got != want) {
            wrong++;
            System.out.println(of + ": " + call + " answered " + got + ", due is " + want);
        }
    }

    void due(String call, boolean want, boolean got) {
        due(call, want ? 1 : 0, got ? 1 : 0);
    }

    int wrongs() {
        return wrong;
    }

    void end() {
        System.out.println(of + ": " + asked + " answers, " + wrong + " wrong");
        if (wrong != 0) {
            System.exit(1);
        }
    }

    /** Feeds the text behind an empty tape; more than 400 bytes do not go. */
    static void feed(SleepWaves waves, String text) {
        for (int at = 0; at < text.length(); at += 20) {
            waves.feed(number(text, at), number(text, at + 4), number(text, at + 8),
                number(text, at + 12), number(text, at + 16));
        }
        waves.end(text.length());
    }

    private static int number(String text, int at) {
        int number = 0;
        for (int i = at; i < at + 4; i++) {
            number = number << 8 | (i < text.length() ? text.charAt(i) : 0);
        }
        return number;
    }

    static int barracks(SleepWaves waves, String text) {
        feed(waves, text);
        return waves.barracks();
    }

    static int law(SleepWaves waves, String text) {
        feed(waves, text);
        return waves.law();
    }

    /** A new object with these barracks and laws. */
    static SleepWaves told(String barracks, String... laws) {
        SleepWaves waves = new SleepWaves();
        if (barracks(waves, barracks) < 0) {
            throw new IllegalStateException("barracks refused: " + barracks);
        }
        for (String law : laws) {
            if (law(waves, law) < 0) {
                throw new IllegalStateException("law refused: " + law);
            }
        }
        return waves;
    }
}
