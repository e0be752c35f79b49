/** Long runs of calls by a fixed rule of numbers, compared with the plain model answer by answer. */
public final class ModelTest {
    private static final String[] WORDS =
        {"now", "day", "tired", "long", "company", "men", "hall", "up", "bell", "snore"};
    private static final String[] PIECES = {"now", "tired", "up", "and", "or", "not", "sleep", "wake", "company", "bell",
        "duty", "watch", "[", "]", "<", "<=", "=", ">=", ">", "+", "-", "*", "/", "%", ";", " ", "0", "7", "99999",
        "100000", "x", "A", ",", "\u0000", "\u00e9", "!", "nows", "1201", "96", "4", "12"};

    private final Check check = new Check("model");
    private final StringBuilder story = new StringBuilder();
    private long rule;
    private SleepWaves waves;
    private Model model;

    private int below(int n) {
        rule = rule * 6364136223846793005L + 1442695040888963407L;
        return (int) ((rule >>> 33) % n);
    }

    private boolean oneIn(int n) {
        return below(n) == 0;
    }

    private int oneOf(int... choices) {
        return choices[below(choices.length)];
    }

    private String gap() {
        return oneIn(12) ? "  " : "";
    }

    // ---- texts ----

    private String barracks() {
        int companies = oneIn(20) ? 0 : 1 + below(12);
        int halls = 1 + below(4);
        int beds = 1 + below(Math.min(12, companies + 1));
        boolean snoring = !oneIn(3);
        StringBuilder text = new StringBuilder();
        int told = 0;
        int all = 0;
        for (int i = 0; i < companies; i++) {
            int men = 1 + below(99);
            clause(text, "company " + men + " " + below(halls) + " " + below(beds) + " "
                + (snoring ? oneOf(0, 5, 30, 60, 100) : 0));
            all += men;
            told++;
            if (oneIn(6)) {
                clause(text, "bell " + below(24) + " " + (1 + below(3)));
            }
            if (oneIn(6)) {
                int from = below(96);
                clause(text, "duty " + below(told) + gap() + " " + from + " " + (from + below(96 - from)));
            }
        }
        if (!oneIn(4)) {
            int watch = oneIn(3) ? below(all + 20) : all / 4 + below(all / 2 + 1);
            clause(text, "watch" + gap() + " " + Math.min(1200, watch));
        }
        for (int i = below(4); i > 0; i--) {
            clause(text, "bell " + below(oneOf(8, 8, 96)) + gap() + " " + (1 + below(oneOf(3, 9))));
        }
        for (int i = told == 0 ? 0 : below(3); i > 0; i--) {
            int from = below(12);
            clause(text, "duty " + below(told) + " " + from + " " + (from + below(12)));
        }
        if (text.length() == 0) {
            text.append("watch 0");
        }
        return text.toString();
    }

    private void clause(StringBuilder text, String clause) {
        if (text.length() + clause.length() + 4 < 400) {
            text.append(text.length() == 0 ? "" : gap() + ";" + gap()).append(clause);
        }
    }

    private String law() {
        StringBuilder text = new StringBuilder();
        if (oneIn(4)) {
            clause(text, "sleep bell=" + (1 + below(3)) + (oneIn(2) ? " or tired>" + (4 + below(30)) : ""));
            clause(text, "wake long>" + below(12) + (oneIn(2) ? " or bell=" + (1 + below(3)) : ""));
            return text.toString();
        }
        if (oneIn(2)) {
            clause(text, "sleep tired>" + below(12) + (oneIn(2) ? " and " + fact(0) : " or bell=" + (1 + below(3))));
            clause(text, "wake " + (oneIn(2) ? "tired<" + below(4) : "long>" + (2 + below(9))));
            return text.toString();
        }
        for (int i = 1 + below(3); i > 0; i--) {
            clause(text, (oneIn(2) ? "sleep" : "wake") + " " + test(0));
        }
        if (oneIn(2)) {
            clause(text, "sleep " + usual());
        }
        if (oneIn(2)) {
            clause(text, "wake " + usual());
        }
        return text.toString();
    }

    private String usual() {
        switch (below(8)) {
            case 0: return "tired>" + below(12);
            case 1: return "long>=" + below(10);
            case 2: return "now%" + (2 + below(7)) + "=company%" + (2 + below(5));
            case 3: return "up>" + below(300);
            case 4: return "bell=" + below(10);
            case 5: return "tired=0";
            case 6: return "up*" + (1 + below(3)) + ">=men*" + (1 + below(20));
            default: return "now>" + below(20) + " and now<" + (10 + below(60));
        }
    }

    private String test(int deep) {
        String test = fact(deep);
        while (oneIn(3)) {
            test += (oneIn(2) ? " and " : " or ") + gap() + fact(deep);
        }
        return test;
    }

    private String fact(int deep) {
        if (deep < 9 && oneIn(5)) {
            return oneIn(2) ? "not " + fact(deep + 1) : "[" + gap() + test(deep + 1) + "]";
        }
        if (oneIn(2)) {
            return usual();
        }
        String[] signs = {"<", "<=", "=", ">=", ">"};
        return sum() + gap() + signs[below(5)] + gap() + sum();
    }

    private String sum() {
        String sum = value();
        while (oneIn(3)) {
            sum += "+-*/%".charAt(below(5)) + gap() + value();
        }
        return sum;
    }

    private String value() {
        return oneIn(3) ? "" + (oneIn(4) ? below(100000) : below(12)) : WORDS[below(10)];
    }

    private String spoilt(String text) {
        StringBuilder spoilt = new StringBuilder(text);
        for (int i = 1 + below(2); i > 0; i--) {
            int at = below(spoilt.length() + 1);
            switch (below(6)) {
                case 0: case 4:
                    while (at > 0 && !Character.isDigit(spoilt.charAt(at - 1))) {
                        at--;
                    }
                    spoilt.insert(at, below(100));
                    break;
                case 1:
                    spoilt.insert(at, PIECES[below(PIECES.length)]);
                    break;
                case 2:
                    spoilt.setLength(at);
                    break;
                case 3:
                    spoilt.delete(at, Math.min(spoilt.length(), at + 1 + below(3)));
                    break;
                default:
                    spoilt.append(";").append(text, 0, Math.min(at, text.length()));
                    break;
            }
        }
        if (spoilt.length() > 400) {
            spoilt.setLength(400);
        }
        return spoilt.toString();
    }

    private String crowded() {
        StringBuilder text = new StringBuilder();
        String[] barracks = {"company 1 0 0 0", "bell 1 1", "watch 1", "duty 0 1 1"};
        text.append("company 1 0 0 0;");
        String[] laws = {"sleep 1=1", "wake[now>1]", "wake not not not up<9"};
        boolean law = oneIn(2);
        int twelve = below(3);
        for (int i = below(40); i >= 0; i--) {
            int at = i % 3 == 0 ? 1 : oneIn(2) ? 3 : 0;
            text.append(law ? laws[below(3)] : barracks[oneIn(40) ? 2 : twelve == 0 ? oneOf(0, 0, 1) : at]).append(';');
        }
        text.setLength(Math.min(400, text.length() - (oneIn(4) ? 0 : 1)));
        return law ? text.substring(16) : text.toString();
    }

    private String deepOrLong() {
        StringBuilder text = new StringBuilder("sleep ");
        for (int i = below(14); i > 0; i--) {
            text.append(oneIn(2) ? "[" : "not ");
        }
        for (int i = 40 + below(30); i > 0; i--) {
            text.append(oneIn(2) ? "1" : "up").append(oneIn(4) ? "=1 and 2+" : "*");
        }
        text.append("1=1");
        for (int i = below(12); i > 0; i--) {
            text.append("]");
        }
        text.setLength(Math.min(400, text.length()));
        return text.toString();
    }

    private void tell(boolean isLaw, String text) {
        story.append('\n').append(isLaw ? "law " : "barracks ").append(text);
        for (int at = 0; at < text.length(); at += 20) {
            int[] n = new int[5];
            for (int i = 0; i < 20; i++) {
                n[i / 4] = n[i / 4] << 8 | (at + i < text.length() ? text.charAt(at + i) : below(256));
            }
            due("feed", model.feed(n[0], n[1], n[2], n[3], n[4]), waves.feed(n[0], n[1], n[2], n[3], n[4]));
        }
        due("end(" + text.length() + ")", model.end(text.length()), waves.end(text.length()));
        due(isLaw ? "law()" : "barracks()", isLaw ? model.law() : model.barracks(),
            isLaw ? waves.law() : waves.barracks());
    }

    private void due(String call, long want, long got) {
        if (want != got && story.length() > 0) {
            System.out.println(story);
            story.setLength(0);
        }
        check.due(call, want, got);
        story.append("\n").append(call).append(" = ").append(want);
    }

    // ---- calls ----

    private int law0() {
        return oneIn(30) ? oneOf(-1, 6, 99, Integer.MIN_VALUE) : below(Math.max(1, model.count(3) + (oneIn(20) ? 1 : 0)));
    }

    private int company0() {
        return oneIn(30) ? oneOf(-1, 12, 13, 99, Integer.MAX_VALUE, Integer.MIN_VALUE)
            : below(Math.max(1, model.count(0) + (oneIn(20) ? 1 : 0)));
    }

    private int n0(int most) {
        return oneIn(12) ? oneOf(-1, 0, most, most + 1, Integer.MAX_VALUE, Integer.MIN_VALUE)
            : oneIn(4) ? below(most + 1) : below(14);
    }

    private int bits0() {
        return oneIn(20) ? oneOf(-1, 4096, Integer.MAX_VALUE) : below(1 << (model.count(0) + (oneIn(20) ? 1 : 0)));
    }

    private int what0(int most) {
        return oneIn(20) ? oneOf(-1, most + 1, 99) : below(most + 1);
    }

    private void change() {
        int a;
        int b;
        switch (below(13)) {
            case 0: case 1: case 2: case 3: case 4:
                a = law0();
                b = oneIn(3) ? n0(96) : 1 + below(6);
                due("tick(" + a + ", " + b + ")", model.tick(a, b), waves.tick(a, b));
                break;
            case 5: case 6:
                a = company0();
                boolean is = oneIn(2);
                due("lie(" + a + ", " + is + ")", model.lie(a, is), waves.lie(a, is) ? 1 : 0);
                break;
            case 7:
                a = company0();
                b = oneIn(3) ? n0(999) : below(20);
                due("tires(" + a + ", " + b + ")", model.tires(a, b), waves.tires(a, b));
                break;
            case 8:
                if (oneIn(2)) {
                    due("count(4)", model.count(4), waves.count(4));
                    break;
                }
                due("drum()", model.drum(), waves.drum());
                break;
            case 9:
                a = oneIn(2) ? 0 : oneIn(3) ? n0(96) : below(4);
                due("feast(" + a + ")", model.feast(a), waves.feast(a));
                break;
            case 10:
                a = oneIn(3) ? oneOf(-1, 0, Integer.MAX_VALUE, Integer.MIN_VALUE) : below(Integer.MAX_VALUE);
                due("seed(" + a + ")", model.seed(a), waves.seed(a));
                break;
            case 11:
                a = what0(3);
                due("image(" + a + ")", model.image(a), waves.image(a));
                break;
            default:
                a = what0(3);
                due("back(" + a + ")", model.back(a), waves.back(a));
                break;
        }
    }

    private void look() {
        int a = company0();
        int b;
        switch (below(8)) {
            case 0:
                b = what0(7);
                due("company(" + a + ", " + b + ")", model.company(a, b), waves.company(a, b));
                break;
            case 1:
                a = n0(192);
                due("log(" + a + ")", model.log(a), waves.log(a));
                break;
            case 2:
                b = company0();
                due("both(" + a + ", " + b + ")", model.both(a, b), waves.both(a, b));
                break;
            case 3:
                due("run(" + a + ")", model.run(a), waves.run(a));
                break;
            case 4:
                b = what0(2);
                due("why(" + a + ", " + b + ")", model.why(a, b), waves.why(a, b));
                break;
            case 5:
                a = oneIn(2) ? bits0() : Math.max(0, model.log(1 + below(3)));
                b = what0(1);
                due("just(" + a + ", " + b + ")", model.just(a, b), waves.just(a, b));
                break;
            case 6:
                a = oneIn(10) ? n0(400) : model.count(12);
                due("end(" + a + ")", model.end(a), waves.end(a));
                break;
            default:
                a = what0(13);
                due("count(" + a + ")", model.count(a), waves.count(a));
                break;
        }
    }

    private void foresee() {
        int l = law0();
        int c = company0();
        int n = n0(192);
        int m = n0(96);
        int w = what0(1);
        int b = n0(96);
        switch (below(13)) {
            case 0:
                w = what0(4);
                due("ahead(" + l + ", " + n + ", " + w + ")", model.ahead(l, n, w), waves.ahead(l, n, w));
                break;
            case 1:
                w = what0(4);
                b = below(Math.max(1, Math.min(300, n + (oneIn(20) ? 1 : 0))));
                due("struck(" + l + ", " + b + ", " + n + ", " + w + ")", model.struck(l, b, n, w),
                    waves.struck(l, b, n, w));
                break;
            case 2:
                w = what0(2);
                c = bits0();
                if (oneIn(3) && l >= 0 && l < model.count(3) && model.image(3) >= 0 && waves.image(3) >= 0) {
                    // a set that lies ahead with some feast, so that it is found
                    due("feast(3)", model.feast(3), waves.feast(3));
                    m = 3 + below(9);
                    due("tick(" + l + ", " + m + ")", model.tick(l, m), waves.tick(l, m));
                    c = model.log(1) < 0 ? 0 : (1 << model.count(0)) - 1 - model.log(1);
                    due("back(3)", model.back(3), waves.back(3));
                }
                due("turned(" + l + ", " + c + ", " + m + ", " + w + ")", model.turned(l, c, m, w),
                    waves.turned(l, c, m, w));
                break;
            case 3:
                due("mutiny(" + l + ", " + c + ", " + b + ", " + m + ")", model.mutiny(l, c, b, m),
                    waves.mutiny(l, c, b, m));
                break;
            case 4:
                m = n0(48);
                due("crest(" + l + ", " + c + ", " + m + ", " + b + ", " + w + ")", model.crest(l, c, m, b, w),
                    waves.crest(l, c, m, b, w));
                break;
            case 5:
                due("dream(" + l + ", " + c + ", " + m + ")", model.dream(l, c, m), waves.dream(l, c, m));
                break;
            case 6:
                b = company0();
                due("told(" + l + ", " + c + ", " + b + ", " + m + ")", model.told(l, c, b, m),
                    waves.told(l, c, b, m));
                break;
            case 7:
                n = oneIn(2) ? 96 + below(97) : n;
                due("harm(" + l + ", " + n + ", " + w + ")", model.harm(l, n, w), waves.harm(l, n, w));
                break;
            case 8:
                w = what0(2);
                due("fair(" + l + ", " + n + ", " + w + ")", model.fair(l, n, w), waves.fair(l, n, w));
                break;
            case 9:
                due("bestLaw(" + n + ")", model.bestLaw(n), waves.bestLaw(n));
                break;
            case 10:
                due("swap(" + l + ", " + n + ", " + w + ")", model.swap(l, n, w), waves.swap(l, n, w));
                break;
            case 11:
                due("strike(" + l + ", " + m + ", " + w + ")", model.strike(l, m, w), waves.strike(l, m, w));
                break;
            default:
                look();
                break;
        }
    }

    private void texts() {
        String text;
        switch (below(6)) {
            case 0:
                tell(oneIn(2), spoilt(oneIn(2) ? law() : barracks()));
                break;
            case 1:
                text = crowded();
                tell(text.charAt(0) == 's' || text.charAt(0) == 'w', text);
                break;
            case 2:
                tell(true, deepOrLong());
                break;
            case 3:
                tell(true, spoilt(law()));
                break;
            case 4:
                tell(false, oneIn(2) ? barracks() : spoilt(barracks()));
                break;
            default:
                tell(true, law());
                break;
        }
    }

    private void run(int number) {
        rule = number * 7919L + 17;
        story.setLength(0);
        story.append("run ").append(number);
        waves = new SleepWaves();
        model = new Model();
        if (!oneIn(20)) {
            tell(false, barracks());
            tell(true, law());
        }
        for (int i = below(3); i > 0; i--) {
            tell(true, law());
        }
        for (int i = 0; i < 120; i++) {
            int kind = below(20);
            if (kind < 8) {
                change();
            } else if (kind < 13) {
                look();
            } else if (kind < 19) {
                foresee();
            } else if (oneIn(3)) {
                texts();
            }
        }
    }

    public static void main(String[] args) {
        int runs = args.length > 0 ? Integer.parseInt(args[0]) : 400;
        int from = args.length > 1 ? Integer.parseInt(args[1]) : 0;
        ModelTest test = new ModelTest();
        for (int i = from; i < from + runs && test.check.wrongs() < 5; i++) {
            test.run(i);
        }
        test.check.end();
    }
}
