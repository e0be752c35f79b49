/** What the tests share: texts are fed, answers compared, and the wrong ones printed. */
final class Check {
    private final String of;
    private String sentence = "";
    private int asked = 0;
    private int wrong = 0;

    Check(String of) {
        this.of = of;
    }

    /** What is asked from here on is what this sentence of the document tells. */
    void sentence(String promise, String words) {
        sentence = ": " + promise + ", '" + words + "'";
        due("the document", true, Document.says("## " + promise + " ") && Document.says(words));
    }

    void due(String call, long want, long got) {
        asked++;
        if (got != want) {
            wrong++;
            System.out.println(of + sentence + ": " + call + " answered " + got + ", due is " + want);
        }
    }

    void due(String call, boolean want, boolean got) {
        due(call, want ? 1 : 0, got ? 1 : 0);
    }

    /** All that can be seen of two objects without asking what would come; their laws and tapes aside. */
    void same(String when, SleepWaves want, SleepWaves got) {
        for (int what : new int[] {0, 1, 2, 4, 5, 6, 7, 8, 9, 10, 11, 13}) {
            due(when + ": count(" + what + ")", want.count(what), got.count(what));
        }
        int companies = want.count(0);
        for (int i = 0; i < companies; i++) {
            for (int what = 0; what <= 7; what++) {
                due(when + ": company(" + i + ", " + what + ")", want.company(i, what), got.company(i, what));
            }
            for (int what = 0; what <= 2; what++) {
                due(when + ": why(" + i + ", " + what + ")", want.why(i, what), got.why(i, what));
            }
        }
        int logged = want.count(10);
        for (int ago = 1; ago <= logged; ago++) {
            due(when + ": log(" + ago + ")", want.log(ago), got.log(ago));
        }
    }

    int wrongs() {
        return wrong;
    }

    void end() {
        System.out.println(of + ": " + asked + " answers, " + wrong + " wrong");
        if (wrong != 0) {
            System.exit(1);
        }
    }

    /** What barracks() and law() answer for a fault of this kind at the ^ in the text. */
    static int fault(int kind, String marked) {
        return -2 - (1 + 8 * marked.indexOf('^') + kind);
    }

    static String unmarked(String marked) {
        return marked.replace("^", "");
    }

    /** The clause so many times, with a ; between each two. */
    static String times(int times, String clause) {
        StringBuilder text = new StringBuilder();
        for (int i = 0; i < times; i++) {
            text.append(i == 0 ? "" : ";").append(clause);
        }
        return text.toString();
    }

    /** Feeds the text behind an empty tape; more than 400 bytes do not go. */
    static void feed(SleepWaves waves, String text) {
        for (int at = 0; at < text.length(); at += 20) {
            waves.feed(number(text, at), number(text, at + 4), number(text, at + 8),
                number(text, at + 12), number(text, at + 16));
        }
        waves.end(text.length());
    }

    private static int number(String text, int at) {
        int number = 0;
        for (int i = at; i < at + 4; i++) {
            number = number << 8 | (i < text.length() ? text.charAt(i) : 0);
        }
        return number;
    }

    static int barracks(SleepWaves waves, String text) {
        feed(waves, text);
        return waves.barracks();
    }

    static int law(SleepWaves waves, String text) {
        feed(waves, text);
        return waves.law();
    }

    /** A new object with these barracks and laws. */
    static SleepWaves told(String barracks, String... laws) {
        SleepWaves waves = new SleepWaves();
        if (barracks(waves, barracks) < 0) {
            throw new IllegalStateException("barracks refused: " + barracks);
        }
        for (String law : laws) {
            if (law(waves, law) < 0) {
                throw new IllegalStateException("law refused: " + law);
            }
        }
        return waves;
    }

    /** Plays so many quarters by a law. */
    static void tick(SleepWaves waves, int law, int quarters) {
        for (int done = 0; done < quarters; done += 96) {
            waves.tick(law, Math.min(96, quarters - done));
        }
    }
}
