import java.util.ArrayList;
import java.util.LinkedList;
import java.util.List;
import java.util.Objects;
import java.util.TreeSet;

/** The document said again, as plainly and slowly as it can be, for comparison with the class. */
final class Model {
    private static final int NONE = -1;

    /** The first fault of a text. */
    static final class Fault extends RuntimeException {
        private static final long serialVersionUID = 1L;
        final int number;

        Fault(int place, int kind) {
            number = 1 + 8 * place + kind;
        }
    }

    private static final class Company implements Cloneable {
        int men, hall, bed, snore;
        boolean asleep;
        int tired, stayed;
        Integer gotUp;
        int why, whyNow, whyBy = NONE;

        Company copy() {
            try {
                return (Company) clone();
            } catch (CloneNotSupportedException e) {
                throw new IllegalStateException(e);
            }
        }
    }

    /** All but laws and tape. */
    private static final class World {
        List<Company> companies = new ArrayList<>();
        List<int[]> bells = new ArrayList<>();
        List<int[]> duties = new ArrayList<>();
        int watch;
        int now, feastEnd;
        long x;
        int fails, firstFail = -2, warm;
        LinkedList<Integer> log = new LinkedList<>();
        int lastMenUp;
        boolean lastFailed;

        World copy() {
            World w = new World();
            for (Company c : companies) {
                w.companies.add(c.copy());
            }
            w.bells.addAll(bells);
            w.duties.addAll(duties);
            w.watch = watch;
            w.now = now;
            w.feastEnd = feastEnd;
            w.x = x;
            w.fails = fails;
            w.firstFail = firstFail;
            w.warm = warm;
            w.log.addAll(log);
            return w;
        }

        int menUp() {
            return companies.stream().filter(c -> !c.asleep).mapToInt(c -> c.men).sum();
        }

        int tired() {
            return companies.stream().mapToInt(c -> c.tired).sum();
        }

        int up() {
            int bits = 0;
            for (int i = 0; i < companies.size(); i++) {
                bits += companies.get(i).asleep ? 0 : 1 << i;
            }
            return bits;
        }

        int asleep() {
            return (1 << companies.size()) - 1 - up();
        }

        int bell() {
            for (int[] b : bells) {
                if (b[0] == now % 96) {
                    return bells.indexOf(b);
                }
            }
            return NONE;
        }

        int duty(int company) {
            for (int i = 0; i < duties.size(); i++) {
                int[] d = duties.get(i);
                if (d[0] == company && d[1] <= now % 96 && d[2] >= now % 96) {
                    return i;
                }
            }
            return NONE;
        }

        boolean bedFree(int company) {
            for (int i = 0; i < companies.size(); i++) {
                Company o = companies.get(i);
                if (i != company && o.asleep && o.bed == companies.get(company).bed) {
                    return false;
                }
            }
            return true;
        }

        void turn(Company c, boolean asleep, int why, int by) {
            c.asleep = asleep;
            if (!asleep) {
                c.gotUp = now;
            }
            c.stayed = 0;
            c.why = why;
            c.whyNow = now;
            c.whyBy = by;
        }

        int drum() {
            int n = 0;
            for (Company c : companies) {
                if (c.asleep) {
                    turn(c, false, 2, NONE);
                    n++;
                }
            }
            return n;
        }

        void quarter(Law law) {
            boolean feast = now < feastEnd;
            List<Company> sleepers = new ArrayList<>();
            for (Company c : companies) {
                if (c.asleep) {
                    sleepers.add(c);
                }
            }
            for (int i = 0; i < companies.size(); i++) {
                Company c = companies.get(i);
                if (!c.asleep && duty(i) == NONE && !feast && law.some("sleep", this, i) && bedFree(i)) {
                    boolean isWarm = false;
                    for (Company o : companies) {
                        isWarm |= o != c && o.bed == c.bed && o.gotUp != null && now - 4 < o.gotUp;
                    }
                    turn(c, true, 3, bell());
                    warm += isWarm ? c.men : 0;
                }
            }
            for (int i = 0; i < companies.size(); i++) {
                Company c = companies.get(i);
                if (!sleepers.contains(c)) {
                    continue;
                }
                if (duty(i) != NONE) {
                    turn(c, false, 4, duty(i));
                } else if (feast) {
                    turn(c, false, 5, NONE);
                } else if (law.some("wake", this, i)) {
                    turn(c, false, 6, bell());
                }
            }
            for (int i = 0; i < companies.size(); i++) {
                Company c = companies.get(i);
                if (!c.asleep) {
                    continue;
                }
                x = (x * 1103515245L + 12345L) % 2147483648L;
                if (x / 65536 % 100 < c.snore) {
                    Company next = null;
                    for (int j = i + 1; j < companies.size() && next == null; j++) {
                        next = companies.get(j).asleep && companies.get(j).hall == c.hall ? companies.get(j) : null;
                    }
                    for (int j = 0; j < i && next == null; j++) {
                        next = companies.get(j).asleep && companies.get(j).hall == c.hall ? companies.get(j) : null;
                    }
                    if (next != null) {
                        turn(next, false, 7, i);
                    }
                }
            }
            for (Company c : companies) {
                c.tired = c.asleep ? Math.max(0, c.tired - 2) : Math.min(999, c.tired + 1);
                c.stayed = Math.min(999, c.stayed + 1);
            }
            lastMenUp = menUp();
            lastFailed = lastMenUp < watch;
            if (lastFailed) {
                fails++;
                if (firstFail == -2) {
                    firstFail = now;
                }
            }
            log.addFirst(up());
            if (log.size() > 192) {
                log.removeLast();
            }
            now++;
        }
    }

    private interface Test {
        boolean holds(World w, int company);
    }

    private interface Sum {
        long of(World w, int company);
    }

    private static final class Law {
        final List<String> kinds = new ArrayList<>();
        final List<Test> tests = new ArrayList<>();

        boolean some(String kind, World w, int company) {
            for (int i = 0; i < kinds.size(); i++) {
                if (kinds.get(i).equals(kind) && tests.get(i).holds(w, company)) {
                    return true;
                }
            }
            return false;
        }
    }

    /** A text as tokens: each with its place; the last one is empty, at the end. */
    private static class Text {
        final List<String> tokens = new ArrayList<>();
        final List<Integer> places = new ArrayList<>();
        int at = 0;

        Text(String text) {
            java.util.regex.Matcher m =
                java.util.regex.Pattern.compile("[0-9]+|[a-z]+|<=|>=|[^ ]", java.util.regex.Pattern.DOTALL).matcher(text);
            while (m.find()) {
                tokens.add(m.group());
                places.add(m.start());
            }
            tokens.add("");
            places.add(text.length());
        }

        String token() {
            return tokens.get(at);
        }

        int place() {
            return places.get(at);
        }

        boolean takes(String token) {
            if (!token().equals(token)) {
                return false;
            }
            at++;
            return true;
        }

        boolean isNumber() {
            return !token().isEmpty() && Character.isDigit(token().charAt(0)) && token().charAt(0) < 128;
        }

        Fault wrong() {
            return new Fault(place(), 0);
        }

        int number(int least, int most) {
            if (!isNumber()) {
                throw wrong();
            }
            if (token().length() > 5 || Integer.parseInt(token()) < least || Integer.parseInt(token()) > most) {
                throw new Fault(place(), 1);
            }
            return Integer.parseInt(tokens.get(at++));
        }
    }

    private static World barracksOf(String text) {
        World w = new World();
        Text t = new Text(text);
        boolean watch = false;
        for (int clause = 1;; clause++) {
            String word = t.token();
            if (!List.of("company", "bell", "duty", "watch").contains(word)) {
                throw t.wrong();
            }
            if (clause == 25 || word.equals("company") && w.companies.size() == 12
                || word.equals("bell") && w.bells.size() == 8 || word.equals("duty") && w.duties.size() == 8
                || word.equals("watch") && watch) {
                throw new Fault(t.place(), 4);
            }
            t.at++;
            if (word.equals("company")) {
                Company c = new Company();
                c.men = t.number(1, 99);
                c.hall = t.number(0, 3);
                c.bed = t.number(0, 11);
                c.snore = t.number(0, 100);
                w.companies.add(c);
            } else if (word.equals("bell")) {
                w.bells.add(new int[] {t.number(0, 95), t.number(1, 9)});
            } else if (word.equals("duty")) {
                int company = t.number(0, w.companies.size() - 1);
                int from = t.number(0, 95);
                w.duties.add(new int[] {company, from, t.number(from, 95)});
            } else {
                watch = true;
                w.watch = t.number(0, 1200);
            }
            if (t.takes(";")) {
                continue;
            }
            if (!t.token().isEmpty()) {
                throw t.wrong();
            }
            return w;
        }
    }

    private static final class LawText extends Text {
        private int parts = 0;

        LawText(String text) {
            super(text);
        }

        Law law() {
            Law law = new Law();
            do {
                String word = token();
                if (!word.equals("sleep") && !word.equals("wake")) {
                    throw wrong();
                }
                if (law.kinds.size() == 12) {
                    throw new Fault(place(), 4);
                }
                at++;
                law.kinds.add(word);
                law.tests.add(test(0));
            } while (takes(";"));
            if (!token().isEmpty()) {
                throw wrong();
            }
            return law;
        }

        private Test test(int deep) {
            Test left = part(deep);
            if (!takes("or")) {
                return left;
            }
            Test right = test(deep);
            return (w, c) -> left.holds(w, c) || right.holds(w, c);
        }

        private Test part(int deep) {
            Test left = fact(deep);
            if (!takes("and")) {
                return left;
            }
            Test right = part(deep);
            return (w, c) -> left.holds(w, c) && right.holds(w, c);
        }

        private Test fact(int deep) {
            boolean not = token().equals("not");
            if (not || token().equals("[")) {
                if (deep == 10) {
                    throw new Fault(place(), 2);
                }
                at++;
                if (not) {
                    Test fact = fact(deep + 1);
                    return (w, c) -> !fact.holds(w, c);
                }
                Test test = test(deep + 1);
                if (!takes("]")) {
                    throw wrong();
                }
                return test;
            }
            Sum left = sum();
            String sign = token();
            if (!List.of("<", "<=", "=", ">=", ">").contains(sign)) {
                throw wrong();
            }
            countPart();
            at++;
            Sum right = sum();
            return (w, c) -> {
                int order = Long.compare(left.of(w, c), right.of(w, c));
                return order < 0 ? sign.startsWith("<") : order > 0 ? sign.startsWith(">") : sign.endsWith("=");
            };
        }

        private void countPart() {
            if (++parts > 60) {
                throw new Fault(place(), 3);
            }
        }

        private Sum sum() {
            Sum sum = term();
            while (token().equals("+") || token().equals("-")) {
                boolean plus = tokens.get(at++).equals("+");
                Sum left = sum;
                Sum right = term();
                sum = (w, c) -> plus ? left.of(w, c) + right.of(w, c) : left.of(w, c) - right.of(w, c);
            }
            return sum;
        }

        private Sum term() {
            Sum term = value();
            while (token().equals("*") || token().equals("/") || token().equals("%")) {
                String sign = tokens.get(at++);
                Sum left = term;
                Sum right = value();
                term = (w, c) -> {
                    long a = left.of(w, c);
                    long b = right.of(w, c);
                    return sign.equals("*") ? a * b : b == 0 ? 0 : sign.equals("/") ? a / b : a % b;
                };
            }
            return term;
        }

        private Sum value() {
            if (isNumber()) {
                if (token().length() > 5) {
                    throw new Fault(place(), 1);
                }
                countPart();
                long number = Long.parseLong(tokens.get(at++));
                return (w, c) -> number;
            }
            Sum sum = word(token());
            if (sum == null) {
                throw wrong();
            }
            countPart();
            at++;
            return sum;
        }

        private static Sum word(String word) {
            switch (word) {
                case "now": return (w, c) -> w.now % 96;
                case "day": return (w, c) -> w.now / 96;
                case "tired": return (w, c) -> w.companies.get(c).tired;
                case "long": return (w, c) -> w.companies.get(c).stayed;
                case "company": return (w, c) -> c;
                case "men": return (w, c) -> w.companies.get(c).men;
                case "hall": return (w, c) -> w.companies.get(c).hall;
                case "up": return (w, c) -> w.menUp();
                case "bell": return (w, c) -> w.bell() == NONE ? 0 : w.bells.get(w.bell())[1];
                case "snore": return (w, c) -> w.companies.get(c).snore;
                default: return null;
            }
        }
    }

    private final StringBuilder tape = new StringBuilder();
    private final List<Law> laws = new ArrayList<>();
    private World world = new World();
    private final World[] images = new World[4];

    int feed(int a, int b, int c, int d, int e) {
        if (tape.length() + 20 > 400) {
            return NONE;
        }
        for (int number : new int[] {a, b, c, d, e}) {
            for (byte one : java.nio.ByteBuffer.allocate(4).putInt(number).array()) {
                tape.append((char) (one & 255));
            }
        }
        return tape.length();
    }

    int end(int n) {
        if (n < 0 || n > tape.length()) {
            return NONE;
        }
        tape.setLength(n);
        return n;
    }

    int barracks() {
        String text = tape.toString();
        tape.setLength(0);
        try {
            World told = barracksOf(text);
            told.x = world.x;
            world = told;
            return told.companies.size();
        } catch (Fault fault) {
            return -2 - fault.number;
        }
    }

    int law() {
        if (laws.size() == 6) {
            return NONE;
        }
        String text = tape.toString();
        tape.setLength(0);
        try {
            laws.add(new LawText(text).law());
            return laws.size() - 1;
        } catch (Fault fault) {
            return -2 - fault.number;
        }
    }

    private boolean noLaw(int law) {
        return law < 0 || law >= laws.size();
    }

    private boolean noCompany(int company) {
        return company < 0 || company >= world.companies.size();
    }

    private boolean noCompanies(int bits) {
        return bits < 0 || bits >= 1 << world.companies.size();
    }

    private static boolean out(int n, int least, int most) {
        return n < least || n > most;
    }

    int tick(int law, int n) {
        if (noLaw(law) || out(n, 1, 96) || world.now + n > 9999) {
            return NONE;
        }
        for (int i = 0; i < n; i++) {
            world.quarter(laws.get(law));
        }
        return world.now;
    }

    int company(int company, int what) {
        if (noCompany(company) || out(what, 0, 7)) {
            return NONE;
        }
        Company c = world.companies.get(company);
        return new int[] {c.asleep ? 1 : 0, c.tired, c.stayed, c.men, c.hall, c.bed, c.snore,
            world.duty(company) == NONE ? 0 : 1}[what];
    }

    int lie(int company, boolean is) {
        if (noCompany(company) || world.companies.get(company).asleep == is || is && !world.bedFree(company)) {
            return 0;
        }
        world.turn(world.companies.get(company), is, 1, NONE);
        return 1;
    }

    int tires(int company, int n) {
        if (noCompany(company) || out(n, 0, 999)) {
            return NONE;
        }
        int was = world.companies.get(company).tired;
        world.companies.get(company).tired = n;
        return was;
    }

    int drum() {
        return world.drum();
    }

    int feast(int n) {
        if (out(n, 0, 96)) {
            return NONE;
        }
        world.feastEnd = world.now + n;
        return world.feastEnd;
    }

    /** Least men up, fails, first fail, tired, warm. */
    private int[] outcome(World from, Law law, int drumAt, int n) {
        World w = from.copy();
        int least = w.companies.stream().mapToInt(c -> c.men).sum();
        int fails = 0;
        int first = -2;
        int warm = w.warm;
        for (int k = 0; k < n; k++) {
            if (k == drumAt) {
                w.drum();
            }
            w.quarter(law);
            least = k == 0 ? w.lastMenUp : Math.min(least, w.lastMenUp);
            if (w.lastFailed) {
                first = first == -2 ? k : first;
                fails++;
            }
        }
        return new int[] {least, fails, first, w.tired(), w.warm - warm};
    }

    int ahead(int law, int n, int what) {
        return noLaw(law) || out(n, 0, 192) || out(what, 0, 4) ? NONE
            : outcome(world, laws.get(law), NONE, n)[what];
    }

    int struck(int law, int at, int n, int what) {
        return noLaw(law) || out(n, 0, 192) || out(at, 0, n - 1) || out(what, 0, 4) ? NONE
            : outcome(world, laws.get(law), at, n)[what];
    }

    int turned(int law, int asleep, int n, int what) {
        if (noLaw(law) || noCompanies(asleep) || out(n, 1, 96) || out(what, 0, 2)) {
            return NONE;
        }
        for (int l = 1; l <= 16; l++) {
            for (int b = 0; b <= 47; b++) {
                World w = world.copy();
                int fails = w.fails;
                for (int k = 0; k < n; k++) {
                    if (k == b) {
                        w.feastEnd = w.now + l;
                    }
                    w.quarter(laws.get(law));
                }
                if (w.asleep() == asleep) {
                    return new int[] {b, l, w.fails - fails}[what];
                }
            }
        }
        return -2;
    }

    private int menOfMutiny(Law law, int company, int b, int n) {
        World w = world.copy();
        TreeSet<Integer> members = new TreeSet<>();
        for (int k = 0; k < b + n; k++) {
            if (k == b) {
                members.add(company);
            }
            w.quarter(law);
            for (int m : new ArrayList<>(members)) {
                if (w.companies.get(m).asleep) {
                    continue;
                }
                for (int i = 0; i < w.companies.size(); i++) {
                    Company c = w.companies.get(i);
                    if (!c.asleep && !members.contains(i)
                        && (c.hall == w.companies.get(m).hall || c.bed == w.companies.get(m).bed)) {
                        members.add(i);
                        break;
                    }
                }
            }
        }
        members.add(company);
        return members.stream().mapToInt(m -> w.companies.get(m).men).sum();
    }

    int mutiny(int law, int company, int b, int n) {
        return noLaw(law) || noCompany(company) || out(b, 0, 96) || out(n, 0, 96) ? NONE
            : menOfMutiny(laws.get(law), company, b, n);
    }

    int crest(int law, int company, int n, int s, int what) {
        if (noLaw(law) || noCompany(company) || out(n, 0, 48) || out(s, 1, 96) || out(what, 0, 1)) {
            return NONE;
        }
        int best = 0;
        for (int b = 1; b < s; b++) {
            if (menOfMutiny(laws.get(law), company, b, n) > menOfMutiny(laws.get(law), company, best, n)) {
                best = b;
            }
        }
        return what == 0 ? best : menOfMutiny(laws.get(law), company, best, n);
    }

    int dream(int law, int company, int n) {
        if (noLaw(law) || noCompany(company) || out(n, 0, 96)) {
            return NONE;
        }
        World w = world.copy();
        boolean[] knows = new boolean[12];
        knows[company] = true;
        for (int k = 0; k < n; k++) {
            w.quarter(laws.get(law));
            for (int hall = 0; hall < 4; hall++) {
                boolean some = false;
                for (int i = 0; i < w.companies.size(); i++) {
                    some |= knows[i] && !w.companies.get(i).asleep && w.companies.get(i).hall == hall;
                }
                for (int i = 0; i < w.companies.size(); i++) {
                    knows[i] |= some && !w.companies.get(i).asleep && w.companies.get(i).hall == hall;
                }
            }
            for (int i = 0; i < w.companies.size(); i++) {
                for (int j = 0; j < w.companies.size(); j++) {
                    if (w.companies.get(i).bed == w.companies.get(j).bed && (knows[i] || knows[j])) {
                        knows[i] = true;
                        knows[j] = true;
                    }
                }
            }
        }
        int bits = 0;
        for (int i = 0; i < 12; i++) {
            bits += knows[i] ? 1 << i : 0;
        }
        return bits;
    }

    int told(int law, int company, int other, int n) {
        if (noLaw(law) || noCompany(company) || noCompany(other) || out(n, 0, 96)) {
            return NONE;
        }
        for (int k = 0; k <= n; k++) {
            if ((dream(law, company, k) & 1 << other) != 0) {
                return k;
            }
        }
        return -2;
    }

    int harm(int law, int n, int what) {
        if (noLaw(law) || out(n, 1, 192) || out(what, 0, 1)) {
            return NONE;
        }
        int least = outcome(world, laws.get(law), NONE, n)[1];
        int which = -2;
        for (int i = 0; i < world.bells.size(); i++) {
            World w = world.copy();
            w.bells.remove(i);
            int fails = outcome(w, laws.get(law), NONE, n)[1];
            if (fails < least) {
                least = fails;
                which = i;
            }
        }
        return what == 0 || which == -2 ? which : least;
    }

    int log(int ago) {
        return out(ago, 1, world.log.size()) ? NONE : world.log.get(ago - 1);
    }

    int both(int one, int other) {
        if (noCompany(one) || noCompany(other) || one == other) {
            return NONE;
        }
        return (int) world.log.stream().filter(up -> (up >> one & 1) == 1 && (up >> other & 1) == 1).count();
    }

    int run(int company) {
        if (noCompany(company)) {
            return NONE;
        }
        StringBuilder line = new StringBuilder();
        world.log.forEach(up -> line.append((up >> company & 1) == 1 ? '#' : ' '));
        int longest = 0;
        for (String piece : line.toString().split(" ")) {
            longest = Math.max(longest, piece.length());
        }
        return longest;
    }

    int why(int company, int what) {
        if (noCompany(company) || out(what, 0, 2)) {
            return -2;
        }
        Company c = world.companies.get(company);
        return what == 0 ? c.why : what == 1 ? c.whyNow : c.whyBy;
    }

    int fair(int law, int n, int what) {
        if (noLaw(law) || out(n, 0, 192) || out(what, 0, 2) || world.companies.isEmpty()) {
            return NONE;
        }
        World w = world.copy();
        int[] slept = new int[w.companies.size()];
        for (int k = 0; k < n; k++) {
            w.quarter(laws.get(law));
            for (int i = 0; i < slept.length; i++) {
                slept[i] += w.companies.get(i).asleep ? 1 : 0;
            }
        }
        int most = java.util.Arrays.stream(slept).max().getAsInt();
        int least = java.util.Arrays.stream(slept).min().getAsInt();
        List<Integer> all = new ArrayList<>();
        for (int s : slept) {
            all.add(s);
        }
        return what == 0 ? all.indexOf(most) : what == 1 ? all.indexOf(least) : most - least;
    }

    int bestLaw(int n) {
        if (out(n, 0, 192)) {
            return NONE;
        }
        int best = -2;
        long bestRank = Long.MAX_VALUE;
        for (int i = 0; i < laws.size(); i++) {
            int[] o = outcome(world, laws.get(i), NONE, n);
            long rank = o[1] * 1000000L + o[3];
            if (rank < bestRank) {
                bestRank = rank;
                best = i;
            }
        }
        return best;
    }

    int swap(int law, int n, int what) {
        if (noLaw(law) || out(n, 1, 192) || out(what, 0, 1)) {
            return NONE;
        }
        int least = outcome(world, laws.get(law), NONE, n)[3];
        int which = -2;
        for (int i = 0; i < world.companies.size(); i++) {
            for (int j = i + 1; j < world.companies.size(); j++) {
                World w = world.copy();
                int bed = w.companies.get(i).bed;
                if (bed == w.companies.get(j).bed) {
                    continue;
                }
                w.companies.get(i).bed = w.companies.get(j).bed;
                w.companies.get(j).bed = bed;
                int tired = outcome(w, laws.get(law), NONE, n)[3];
                if (tired < least) {
                    least = tired;
                    which = 12 * i + j;
                }
            }
        }
        return what == 0 || which == -2 ? which : least;
    }

    int strike(int law, int n, int what) {
        if (noLaw(law) || out(n, 1, 96) || out(what, 0, 1)) {
            return NONE;
        }
        int least = outcome(world, laws.get(law), NONE, n)[1];
        int which = -2;
        for (int at = 0; at < n; at++) {
            int fails = outcome(world, laws.get(law), at, n)[1];
            if (fails < least) {
                least = fails;
                which = at;
            }
        }
        return what == 0 || which == -2 ? which : least;
    }

    int just(int up, int what) {
        if (noCompanies(up) || out(what, 0, 1)) {
            return NONE;
        }
        if (what == 0) {
            return (int) world.log.stream().filter(bits -> Objects.equals(bits, up)).count();
        }
        int place = world.log.indexOf(up);
        return place < 0 ? -2 : place + 1;
    }

    int seed(int x) {
        if (x < 0) {
            return NONE;
        }
        int was = (int) world.x;
        world.x = x;
        return was;
    }

    int count(int what) {
        if (out(what, 0, 13)) {
            return NONE;
        }
        return new int[] {world.companies.size(), world.bells.size(), world.duties.size(), laws.size(), world.now,
            world.menUp(), world.fails, world.firstFail, world.warm, world.feastEnd, world.log.size(),
            (int) world.x, tape.length(), world.watch}[what];
    }

    int image(int k) {
        if (out(k, 0, 3)) {
            return NONE;
        }
        images[k] = world.copy();
        return world.now;
    }

    int back(int k) {
        if (out(k, 0, 3) || images[k] == null) {
            return NONE;
        }
        world = images[k].copy();
        return world.now;
    }
}
