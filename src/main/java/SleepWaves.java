/** Companies that share beds and sleep in waves, by bells, duties and laws; see README.md. */
public final class SleepWaves {
    public static final int NONE = -1;

    private static final int NEVER = -2;
    private static final int MOST_COMPANIES = 12;
    private static final int MOST_BELLS = 8;
    private static final int MOST_DUTIES = 8;
    private static final int MOST_LAWS = 6;
    private static final int IMAGES = 4;
    private static final int DAY = 96;
    private static final int LAST_NOW = 9999;
    private static final int MOST_TIRED = 999;
    private static final int FAR = 192;

    private final Tape tape;
    private final CampReader campReader;
    private final LawReader lawReader;
    private final Camp draft;
    private final Law[] laws;
    private int lawCount;
    private final State live;
    private final Log past;
    private final State[] imageStates;
    private final Log[] imagePasts;
    private final boolean[] imageMade;
    private final Forecast forecast;
    private final Gossip gossip;

    public SleepWaves() {
        tape = new Tape();
        Scanner scanner = new Scanner(tape);
        campReader = new CampReader(scanner);
        lawReader = new LawReader(scanner);
        draft = new Camp();
        laws = new Law[MOST_LAWS];
        for (int i = 0; i < MOST_LAWS; i++) {
            laws[i] = new Law();
        }
        live = new State();
        past = new Log();
        imageStates = new State[IMAGES];
        imagePasts = new Log[IMAGES];
        imageMade = new boolean[IMAGES];
        for (int i = 0; i < IMAGES; i++) {
            imageStates[i] = new State();
            imagePasts[i] = new Log();
        }
        forecast = new Forecast(live);
        gossip = new Gossip(live);
    }

    // ---- texts ----

    public int feed(int a, int b, int c, int d, int e) {
        if (tape.size > Tape.MOST - 20) {
            return NONE;
        }
        tape.add(a);
        tape.add(b);
        tape.add(c);
        tape.add(d);
        tape.add(e);
        return tape.size;
    }

    public int end(int n) {
        if (n < 0 || n > tape.size) {
            return NONE;
        }
        tape.size = n;
        return n;
    }

    public int barracks() {
        int fault = campReader.readCamp(draft);
        tape.size = 0;
        if (fault != 0) {
            return -2 - fault;
        }
        live.begin(draft);
        past.clear();
        return draft.companies;
    }

    public int law() {
        if (lawCount >= MOST_LAWS) {
            return NONE;
        }
        int fault = lawReader.readLaw(laws[lawCount]);
        tape.size = 0;
        if (fault != 0) {
            return -2 - fault;
        }
        lawCount++;
        return lawCount - 1;
    }

    // ---- what happens ----

    public int tick(int law, int n) {
        if (!isLaw(law) || n < 1 || n > 96 || live.now + n > LAST_NOW) {
            return NONE;
        }
        for (int i = 0; i < n; i++) {
            live.passQuarters(laws[law], 1);
            past.add(live.upBits());
        }
        return live.now;
    }

    public boolean lie(int company, boolean is) {
        if (!isCompany(company) || live.isAsleep(company) == is) {
            return false;
        }
        if (!is) {
            live.getUp(company, State.BY_HAND, NONE);
            return true;
        }
        if (live.bedIsTaken(company)) {
            return false;
        }
        live.lieDown(company, State.BY_HAND, NONE);
        return true;
    }

    public int tires(int company, int n) {
        if (!isCompany(company) || n < 0 || n > MOST_TIRED) {
            return NONE;
        }
        int was = live.tired[company];
        live.tired[company] = n;
        return was;
    }

    public int drum() {
        return live.wakeAll();
    }

    public int feast(int n) {
        if (n < 0 || n > 96) {
            return NONE;
        }
        live.feastEnd = live.now + n;
        return live.feastEnd;
    }

    public int seed(int x) {
        if (x < 0) {
            return NONE;
        }
        int was = live.x;
        live.x = x;
        return was;
    }

    public int image(int k) {
        if (k < 0 || k >= IMAGES) {
            return NONE;
        }
        imageStates[k].copyFrom(live);
        imagePasts[k].copyFrom(past);
        imageMade[k] = true;
        return live.now;
    }

    public int back(int k) {
        if (k < 0 || k >= IMAGES || !imageMade[k]) {
            return NONE;
        }
        live.copyFrom(imageStates[k]);
        past.copyFrom(imagePasts[k]);
        return live.now;
    }

    // ---- what is and was ----

    public int company(int company, int what) {
        if (!isCompany(company)) {
            return NONE;
        }
        switch (what) {
            case 0: return live.isAsleep(company) ? 1 : 0;
            case 1: return live.tired[company];
            case 2: return live.stayed[company];
            case 3: return live.camp.men[company];
            case 4: return live.camp.hall[company];
            case 5: return live.camp.bed[company];
            case 6: return live.camp.snore[company];
            case 7: return live.camp.firstDuty(company, live.now % DAY) == NONE ? 0 : 1;
            default: return NONE;
        }
    }

    public int why(int company, int what) {
        if (!isCompany(company)) {
            return NEVER;
        }
        switch (what) {
            case 0: return live.why[company];
            case 1: return live.whyNow[company];
            case 2: return live.whyBy[company];
            default: return NEVER;
        }
    }

    public int count(int what) {
        switch (what) {
            case 0: return live.camp.companies;
            case 1: return live.camp.bells;
            case 2: return live.camp.duties;
            case 3: return lawCount;
            case 4: return live.now;
            case 5: return live.menUp;
            case 6: return live.fails;
            case 7: return live.firstFail;
            case 8: return live.warm;
            case 9: return live.feastEnd;
            case 10: return past.size;
            case 11: return live.x;
            case 12: return tape.size;
            case 13: return live.camp.watch;
            default: return NONE;
        }
    }

    public int log(int ago) {
        return past.upAgo(ago);
    }

    public int both(int one, int other) {
        if (!isCompany(one) || !isCompany(other) || one == other) {
            return NONE;
        }
        return past.quartersWith(1 << one | 1 << other);
    }

    public int run(int company) {
        return isCompany(company) ? past.longestRun(1 << company) : NONE;
    }

    public int just(int up, int what) {
        if (!areCompanies(up) || what < 0 || what > 1) {
            return NONE;
        }
        return what == 0 ? past.quartersOf(up) : past.lastOf(up);
    }

    // ---- what would come ----

    public int ahead(int law, int n, int what) {
        if (!isLaw(law) || n < 0 || n > FAR || what < 0 || what > 4) {
            return NONE;
        }
        forecast.play(laws[law], n);
        return forecast.outcome(what);
    }

    public int struck(int law, int at, int n, int what) {
        if (!isLaw(law) || n < 0 || n > FAR || at < 0 || at >= n || what < 0 || what > 4) {
            return NONE;
        }
        forecast.playStruck(laws[law], at, n);
        return forecast.outcome(what);
    }

    public int turned(int law, int asleep, int n, int what) {
        if (!isLaw(law) || !areCompanies(asleep) || n < 1 || n > 96 || what < 0 || what > 2) {
            return NONE;
        }
        forecast.findTurn(laws[law], asleep, n);
        return forecast.found[what];
    }

    public int mutiny(int law, int company, int b, int n) {
        if (!isLaw(law) || !isCompany(company) || b < 0 || b > 96 || n < 0 || n > 96) {
            return NONE;
        }
        gossip.foresee(laws[law], b + n);
        return gossip.menOfMutiny(company, b, n);
    }

    public int crest(int law, int company, int n, int s, int what) {
        if (!isLaw(law) || !isCompany(company) || n < 0 || n > 48 || s < 1 || s > 96) {
            return NONE;
        }
        if (what < 0 || what > 1) {
            return NONE;
        }
        gossip.foresee(laws[law], s - 1 + n);
        int most = NONE;
        int begin = NONE;
        for (int b = 0; b < s; b++) {
            int men = gossip.menOfMutiny(company, b, n);
            if (men > most) {
                most = men;
                begin = b;
            }
        }
        return what == 0 ? begin : most;
    }

    public int dream(int law, int company, int n) {
        if (!isLaw(law) || !isCompany(company) || n < 0 || n > 96) {
            return NONE;
        }
        gossip.foresee(laws[law], n);
        int knowing = 1 << company;
        for (int k = 0; k < n; k++) {
            knowing = gossip.dreamOn(knowing, k);
        }
        return knowing;
    }

    public int told(int law, int company, int other, int n) {
        if (!isLaw(law) || !isCompany(company) || !isCompany(other) || n < 0 || n > 96) {
            return NONE;
        }
        gossip.foresee(laws[law], n);
        int knowing = 1 << company;
        for (int k = 0; k < n; k++) {
            if ((knowing >> other & 1) != 0) {
                return k;
            }
            knowing = gossip.dreamOn(knowing, k);
        }
        return (knowing >> other & 1) != 0 ? n : NEVER;
    }

    public int harm(int law, int n, int what) {
        if (!isLaw(law) || n < 1 || n > FAR || what < 0 || what > 1) {
            return NONE;
        }
        forecast.findHarm(laws[law], n);
        return forecast.found[what];
    }

    public int fair(int law, int n, int what) {
        if (!isLaw(law) || n < 0 || n > FAR || what < 0 || what > 2 || live.camp.companies == 0) {
            return NONE;
        }
        forecast.findFair(laws[law], n);
        return forecast.found[what];
    }

    public int bestLaw(int n) {
        if (n < 0 || n > FAR) {
            return NONE;
        }
        int best = NEVER;
        int fails = 0;
        int tired = 0;
        for (int i = 0; i < lawCount; i++) {
            forecast.play(laws[i], n);
            int itsFails = forecast.outcome(Forecast.FAILS);
            int itsTired = forecast.outcome(Forecast.TIRED);
            if (best == NEVER || itsFails < fails || itsFails == fails && itsTired < tired) {
                best = i;
                fails = itsFails;
                tired = itsTired;
            }
        }
        return best;
    }

    public int swap(int law, int n, int what) {
        if (!isLaw(law) || n < 1 || n > FAR || what < 0 || what > 1) {
            return NONE;
        }
        forecast.findSwap(laws[law], n);
        return forecast.found[what];
    }

    public int strike(int law, int n, int what) {
        if (!isLaw(law) || n < 1 || n > 96 || what < 0 || what > 1) {
            return NONE;
        }
        forecast.findStrike(laws[law], n);
        return forecast.found[what];
    }

    private boolean isLaw(int law) {
        return law >= 0 && law < lawCount;
    }

    private boolean isCompany(int company) {
        return company >= 0 && company < live.camp.companies;
    }

    private boolean areCompanies(int bits) {
        return bits >= 0 && bits >> live.camp.companies == 0;
    }

    /** The bytes that were fed and not yet read. */
    private static final class Tape {
        static final int MOST = 400;

        final int[] bytes = new int[MOST];
        int size;

        void add(int number) {
            for (int shift = 24; shift >= 0 && size < MOST; shift -= 8) {
                bytes[size] = number >>> shift & 255;
                size++;
            }
        }
    }

    /** Goes through the tape by words, numbers and signs, and keeps the first fault. */
    private static final class Scanner {
        static final int END = 0;
        static final int NUMBER = 1;
        static final int WORD = 2;
        static final int SIGN = 3;

        static final int WRONG = 0;
        static final int BAD_NUMBER = 1;
        static final int TOO_DEEP = 2;
        static final int TOO_MANY_PARTS = 3;
        static final int TOO_MANY_CLAUSES = 4;

        // Signs of two bytes go as numbers above every byte.
        static final int AT_MOST = 256;
        static final int AT_LEAST = 257;

        static final int TOO_LONG = -1;

        final Tape tape;
        int at;
        int place;
        int kind;
        int value;
        int fault;

        Scanner(Tape tape) {
            this.tape = tape;
        }

        void begin() {
            at = 0;
            fault = 0;
        }

        void fail(int which) {
            if (fault == 0) {
                fault = 1 + 8 * place + which;
            }
        }

        boolean failed() {
            return fault != 0;
        }

        void next() {
            for (int i = 0; i < Tape.MOST && peek() == ' '; i++) {
                at++;
            }
            place = at;
            int first = peek();
            if (first == NONE) {
                kind = END;
                value = NONE;
            } else if (first >= '0' && first <= '9') {
                readNumber();
            } else if (first >= 'a' && first <= 'z') {
                readWord();
            } else {
                readSign();
            }
        }

        private int peek() {
            return at >= 0 && at < tape.size && at < Tape.MOST ? tape.bytes[at] : NONE;
        }

        private void readNumber() {
            kind = NUMBER;
            value = 0;
            for (int i = 0; i < Tape.MOST && peek() >= '0' && peek() <= '9'; i++) {
                value = i >= 5 ? TOO_LONG : value * 10 + peek() - '0';
                at++;
            }
        }

        private void readWord() {
            kind = WORD;
            for (int i = 0; i < Tape.MOST && peek() >= 'a' && peek() <= 'z'; i++) {
                at++;
            }
            value = at - place;
        }

        private void readSign() {
            kind = SIGN;
            value = peek();
            at++;
            if (peek() == '=' && value == '<') {
                value = AT_MOST;
                at++;
            } else if (peek() == '=' && value == '>') {
                value = AT_LEAST;
                at++;
            }
        }

        boolean isSign(int sign) {
            return kind == SIGN && value == sign;
        }

        boolean isWord(String word) {
            if (kind != WORD || value != word.length()) {
                return false;
            }
            for (int i = 0; i < word.length(); i++) {
                if (place + i >= Tape.MOST || tape.bytes[place + i] != word.charAt(i)) {
                    return false;
                }
            }
            return true;
        }
    }

    /** Barracks as told: companies, bells, duties and the watch. */
    private static final class Camp {
        int companies;
        final int[] men = new int[MOST_COMPANIES];
        final int[] hall = new int[MOST_COMPANIES];
        final int[] bed = new int[MOST_COMPANIES];
        final int[] snore = new int[MOST_COMPANIES];
        int bells;
        final int[] bellQuarter = new int[MOST_BELLS];
        final int[] bellTone = new int[MOST_BELLS];
        int duties;
        final int[] dutyCompany = new int[MOST_DUTIES];
        final int[] dutyFrom = new int[MOST_DUTIES];
        final int[] dutyTill = new int[MOST_DUTIES];
        int watch;

        void clear() {
            companies = 0;
            bells = 0;
            duties = 0;
            watch = 0;
        }

        void copyFrom(Camp other) {
            companies = other.companies;
            System.arraycopy(other.men, 0, men, 0, MOST_COMPANIES);
            System.arraycopy(other.hall, 0, hall, 0, MOST_COMPANIES);
            System.arraycopy(other.bed, 0, bed, 0, MOST_COMPANIES);
            System.arraycopy(other.snore, 0, snore, 0, MOST_COMPANIES);
            bells = other.bells;
            System.arraycopy(other.bellQuarter, 0, bellQuarter, 0, MOST_BELLS);
            System.arraycopy(other.bellTone, 0, bellTone, 0, MOST_BELLS);
            duties = other.duties;
            System.arraycopy(other.dutyCompany, 0, dutyCompany, 0, MOST_DUTIES);
            System.arraycopy(other.dutyFrom, 0, dutyFrom, 0, MOST_DUTIES);
            System.arraycopy(other.dutyTill, 0, dutyTill, 0, MOST_DUTIES);
            watch = other.watch;
        }

        int firstBell(int quarter) {
            for (int i = 0; i < bells; i++) {
                if (bellQuarter[i] == quarter) {
                    return i;
                }
            }
            return NONE;
        }

        int firstDuty(int company, int quarter) {
            for (int i = 0; i < duties; i++) {
                if (dutyCompany[i] == company && dutyFrom[i] <= quarter && quarter <= dutyTill[i]) {
                    return i;
                }
            }
            return NONE;
        }

        int menOf(int bits) {
            int sum = 0;
            for (int i = 0; i < companies; i++) {
                if ((bits >> i & 1) != 0) {
                    sum += men[i];
                }
            }
            return sum;
        }

        void dropBell(int bell) {
            for (int i = bell; i + 1 < bells; i++) {
                bellQuarter[i] = bellQuarter[i + 1];
                bellTone[i] = bellTone[i + 1];
            }
            bells--;
        }

        void exchangeBeds(int one, int other) {
            int kept = bed[one];
            bed[one] = bed[other];
            bed[other] = kept;
        }
    }

    /** Reads the language of barracks. */
    private static final class CampReader {
        private static final int MOST_CLAUSES = 24;

        private final Scanner scanner;
        private Camp camp;
        private boolean isFull;
        private boolean watchTold;

        CampReader(Scanner scanner) {
            this.scanner = scanner;
        }

        /** Answers the fault, 0 without one. */
        int readCamp(Camp target) {
            camp = target;
            camp.clear();
            watchTold = false;
            scanner.begin();
            boolean more = true;
            for (int told = 0; more && told <= MOST_CLAUSES; told++) {
                isFull = told == MOST_CLAUSES;
                scanner.next();
                if (scanner.isWord("company")) {
                    readCompany();
                } else if (scanner.isWord("bell")) {
                    readBell();
                } else if (scanner.isWord("duty")) {
                    readDuty();
                } else if (scanner.isWord("watch")) {
                    readWatch();
                } else {
                    scanner.fail(Scanner.WRONG);
                }
                more = clauseFollows();
            }
            return scanner.fault;
        }

        private boolean clauseFollows() {
            if (scanner.failed()) {
                return false;
            }
            scanner.next();
            boolean follows = scanner.isSign(';');
            if (!follows && scanner.kind != Scanner.END) {
                scanner.fail(Scanner.WRONG);
            }
            return follows;
        }

        private boolean isOneTooMany(boolean ofItsKind) {
            boolean tooMany = ofItsKind || isFull;
            if (tooMany) {
                scanner.fail(Scanner.TOO_MANY_CLAUSES);
            }
            return tooMany;
        }

        private void readCompany() {
            int i = camp.companies;
            if (isOneTooMany(i >= MOST_COMPANIES)) {
                return;
            }
            camp.men[i] = number(1, 99);
            camp.hall[i] = number(0, 3);
            camp.bed[i] = number(0, 11);
            camp.snore[i] = number(0, 100);
            camp.companies = i + 1;
        }

        private void readBell() {
            int i = camp.bells;
            if (isOneTooMany(i >= MOST_BELLS)) {
                return;
            }
            camp.bellQuarter[i] = number(0, DAY - 1);
            camp.bellTone[i] = number(1, 9);
            camp.bells = i + 1;
        }

        private void readDuty() {
            int i = camp.duties;
            if (isOneTooMany(i >= MOST_DUTIES)) {
                return;
            }
            camp.dutyCompany[i] = number(0, camp.companies - 1);
            camp.dutyFrom[i] = number(0, DAY - 1);
            camp.dutyTill[i] = number(camp.dutyFrom[i], DAY - 1);
            camp.duties = i + 1;
        }

        private void readWatch() {
            if (isOneTooMany(watchTold)) {
                return;
            }
            watchTold = true;
            camp.watch = number(0, 1200);
        }

        // Behind a fault nothing is read on, so that its place stays.
        private int number(int least, int most) {
            if (scanner.failed()) {
                return least;
            }
            scanner.next();
            if (scanner.kind != Scanner.NUMBER) {
                scanner.fail(Scanner.WRONG);
                return least;
            }
            if (scanner.value < least || scanner.value > most) {
                scanner.fail(Scanner.BAD_NUMBER);
                return least;
            }
            return scanner.value;
        }
    }

    /** A law: sleep and wake tests as code for a stack. */
    private static final class Law {
        static final int MOST_CLAUSES = 12;
        static final int MOST_PARTS = 60;

        // An operator's tens tell how tightly it binds.
        static final int OPEN = 0;
        static final int OR = 10;
        static final int AND = 20;
        static final int NOT = 30;
        static final int BELOW = 40;
        static final int AT_MOST = 41;
        static final int EQUAL = 42;
        static final int AT_LEAST = 43;
        static final int ABOVE = 44;
        static final int PLUS = 50;
        static final int MINUS = 51;
        static final int TIMES = 60;
        static final int OVER = 61;
        static final int REST = 62;
        static final int NUMBER = 70;
        static final int WORD = 71;

        private int clauses;
        private final boolean[] isSleep = new boolean[MOST_CLAUSES];
        private final int[] begins = new int[MOST_CLAUSES + 1];
        private int size;
        private final int[] code = new int[Tape.MOST];
        private final int[] args = new int[Tape.MOST];
        private final long[] stack = new long[MOST_PARTS];

        void clear() {
            clauses = 0;
            size = 0;
        }

        boolean isFull() {
            return clauses >= MOST_CLAUSES;
        }

        void openClause(boolean sleep) {
            if (clauses < MOST_CLAUSES) {
                isSleep[clauses] = sleep;
                begins[clauses] = size;
            }
        }

        void closeClause() {
            if (clauses < MOST_CLAUSES) {
                clauses++;
                begins[clauses] = size;
            }
        }

        void emit(int op, int arg) {
            if (size < Tape.MOST) {
                code[size] = op;
                args[size] = arg;
                size++;
            }
        }

        boolean holds(boolean sleep, State state, int company) {
            for (int i = 0; i < clauses; i++) {
                if (isSleep[i] == sleep && clauseHolds(i, state, company)) {
                    return true;
                }
            }
            return false;
        }

        private boolean clauseHolds(int clause, State state, int company) {
            int height = 0;
            for (int i = begins[clause]; i < begins[clause + 1]; i++) {
                int op = code[i];
                if (op == NUMBER || op == WORD) {
                    if (height >= MOST_PARTS) {
                        return false;
                    }
                    stack[height] = op == NUMBER ? args[i] : state.valueOf(args[i], company);
                    height++;
                } else if (op == NOT) {
                    if (height < 1) {
                        return false;
                    }
                    stack[height - 1] = 1 - stack[height - 1];
                } else {
                    if (height < 2) {
                        return false;
                    }
                    height--;
                    stack[height - 1] = combine(op, stack[height - 1], stack[height]);
                }
            }
            return height == 1 && stack[0] != 0;
        }

        private static long combine(int op, long a, long b) {
            switch (op) {
                case TIMES: return a * b;
                case OVER: return b == 0 ? 0 : a / b;
                case REST: return b == 0 ? 0 : a % b;
                case PLUS: return a + b;
                case MINUS: return a - b;
                case BELOW: return a < b ? 1 : 0;
                case AT_MOST: return a <= b ? 1 : 0;
                case EQUAL: return a == b ? 1 : 0;
                case AT_LEAST: return a >= b ? 1 : 0;
                case ABOVE: return a > b ? 1 : 0;
                case AND: return a & b;
                case OR: return a | b;
                default: return 0;
            }
        }
    }

    /** Reads the language of laws, holding operators back until what binds tighter is out. */
    private static final class LawReader {
        private static final int CLAUSE = 0;
        private static final int FACT = 1;
        private static final int VALUE = 2;
        private static final int BEHIND_VALUE = 3;
        private static final int BEHIND_BRACKET = 4;
        private static final int DONE = 5;

        private static final int MOST_DEEP = 10;

        private final Scanner scanner;
        private Law target;
        private int expected;
        private boolean signed;
        private int parts;
        private final int[] held = new int[Tape.MOST];
        private int heldCount;
        private int brackets;
        private int nots;

        LawReader(Scanner scanner) {
            this.scanner = scanner;
        }

        /** Answers the fault, 0 without one. */
        int readLaw(Law law) {
            target = law;
            target.clear();
            expected = CLAUSE;
            parts = 0;
            heldCount = 0;
            brackets = 0;
            nots = 0;
            scanner.begin();
            for (int i = 0; i <= Tape.MOST && expected != DONE && !scanner.failed(); i++) {
                scanner.next();
                take();
            }
            return scanner.fault;
        }

        private void take() {
            switch (expected) {
                case CLAUSE:
                    takeClause();
                    break;
                case FACT:
                    takeFact();
                    break;
                case VALUE:
                    takeValue();
                    break;
                case BEHIND_VALUE:
                    takeOperator();
                    break;
                default:
                    takeJoint();
                    break;
            }
        }

        private void takeClause() {
            boolean sleep = scanner.isWord("sleep");
            if (!sleep && !scanner.isWord("wake")) {
                scanner.fail(Scanner.WRONG);
            } else if (target.isFull()) {
                scanner.fail(Scanner.TOO_MANY_CLAUSES);
            } else {
                target.openClause(sleep);
                expected = FACT;
            }
        }

        private void takeFact() {
            boolean opens = scanner.isSign('[');
            if (!opens && !scanner.isWord("not")) {
                signed = false;
                takeValue();
                return;
            }
            if (brackets + nots >= MOST_DEEP) {
                scanner.fail(Scanner.TOO_DEEP);
            } else if (opens) {
                brackets++;
                hold(Law.OPEN);
            } else {
                nots++;
                hold(Law.NOT);
            }
        }

        private void takeValue() {
            int word = scanner.kind == Scanner.WORD ? wordNumber() : NONE;
            if (scanner.kind != Scanner.NUMBER && word == NONE) {
                scanner.fail(Scanner.WRONG);
            } else if (scanner.kind == Scanner.NUMBER && scanner.value == Scanner.TOO_LONG) {
                scanner.fail(Scanner.BAD_NUMBER);
            } else if (isPartTooMany()) {
                scanner.fail(Scanner.TOO_MANY_PARTS);
            } else if (word == NONE) {
                target.emit(Law.NUMBER, scanner.value);
            } else {
                target.emit(Law.WORD, word);
            }
            expected = BEHIND_VALUE;
        }

        private boolean isPartTooMany() {
            parts++;
            return parts > Law.MOST_PARTS;
        }

        private void takeOperator() {
            int op = scanner.kind == Scanner.SIGN ? operatorOf(scanner.value) : NONE;
            if (op >= Law.PLUS) {
                release(op);
                hold(op);
                expected = VALUE;
            } else if (op == NONE && signed) {
                takeJoint();
            } else if (op == NONE || signed) {
                scanner.fail(Scanner.WRONG);
            } else if (isPartTooMany()) {
                scanner.fail(Scanner.TOO_MANY_PARTS);
            } else {
                release(op);
                hold(op);
                signed = true;
                expected = VALUE;
            }
        }

        private void takeJoint() {
            boolean ends = scanner.kind == Scanner.END;
            if (scanner.isWord("and")) {
                release(Law.AND);
                hold(Law.AND);
                expected = FACT;
            } else if (scanner.isWord("or")) {
                release(Law.OR);
                hold(Law.OR);
                expected = FACT;
            } else if (scanner.isSign(']') && brackets > 0) {
                release(Law.OR);
                closeBracket();
                expected = BEHIND_BRACKET;
            } else if ((ends || scanner.isSign(';')) && brackets == 0) {
                release(Law.OR);
                target.closeClause();
                expected = ends ? DONE : CLAUSE;
            } else {
                scanner.fail(Scanner.WRONG);
            }
        }

        private void hold(int op) {
            if (heldCount < Tape.MOST) {
                held[heldCount] = op;
                heldCount++;
            }
        }

        private void release(int op) {
            int rank = op / 10;
            for (int i = heldCount - 1; i >= 0 && held[i] / 10 >= rank; i--) {
                if (held[i] == Law.NOT) {
                    nots--;
                }
                target.emit(held[i], 0);
                heldCount = i;
            }
        }

        private void closeBracket() {
            brackets--;
            heldCount = Math.max(0, heldCount - 1);
        }

        private int wordNumber() {
            if (scanner.isWord("now")) return State.WORD_NOW;
            if (scanner.isWord("day")) return State.WORD_DAY;
            if (scanner.isWord("tired")) return State.WORD_TIRED;
            if (scanner.isWord("long")) return State.WORD_LONG;
            if (scanner.isWord("company")) return State.WORD_COMPANY;
            if (scanner.isWord("men")) return State.WORD_MEN;
            if (scanner.isWord("hall")) return State.WORD_HALL;
            if (scanner.isWord("up")) return State.WORD_UP;
            if (scanner.isWord("bell")) return State.WORD_BELL;
            if (scanner.isWord("snore")) return State.WORD_SNORE;
            return NONE;
        }

        private static int operatorOf(int sign) {
            switch (sign) {
                case '+': return Law.PLUS;
                case '-': return Law.MINUS;
                case '*': return Law.TIMES;
                case '/': return Law.OVER;
                case '%': return Law.REST;
                case '<': return Law.BELOW;
                case '=': return Law.EQUAL;
                case '>': return Law.ABOVE;
                case Scanner.AT_MOST: return Law.AT_MOST;
                case Scanner.AT_LEAST: return Law.AT_LEAST;
                default: return NONE;
            }
        }
    }

    /** The companies as they are at some quarter; how a quarter goes. */
    private static final class State {
        static final int BY_HAND = 1;
        static final int BY_DRUM = 2;
        static final int BY_SLEEP_TEST = 3;
        static final int BY_DUTY = 4;
        static final int BY_FEAST = 5;
        static final int BY_WAKE_TEST = 6;
        static final int BY_SNORE = 7;

        static final int WORD_NOW = 0;
        static final int WORD_DAY = 1;
        static final int WORD_TIRED = 2;
        static final int WORD_LONG = 3;
        static final int WORD_COMPANY = 4;
        static final int WORD_MEN = 5;
        static final int WORD_HALL = 6;
        static final int WORD_UP = 7;
        static final int WORD_BELL = 8;
        static final int WORD_SNORE = 9;

        private static final int GREATEST_X = 2147483647;
        private static final int MOST_STAYED = 999;
        private static final int WARM_FOR = 4;
        // So long ago that no bed is warm of it at the first quarter.
        private static final int LONG_AGO = -1000;

        final Camp camp = new Camp();
        int now;
        int x;
        int feastEnd;
        int asleep;
        int menUp;
        final int[] tired = new int[MOST_COMPANIES];
        final int[] stayed = new int[MOST_COMPANIES];
        final int[] rose = new int[MOST_COMPANIES];
        final int[] why = new int[MOST_COMPANIES];
        final int[] whyNow = new int[MOST_COMPANIES];
        final int[] whyBy = new int[MOST_COMPANIES];
        int fails;
        int firstFail = NEVER;
        int leastUp;
        int warm;
        private int bell = NONE;

        /** All is as at first in other barracks; x alone stays. */
        void begin(Camp told) {
            camp.copyFrom(told);
            now = 0;
            feastEnd = 0;
            asleep = 0;
            menUp = camp.menOf(upBits());
            for (int i = 0; i < MOST_COMPANIES; i++) {
                tired[i] = 0;
                stayed[i] = 0;
                rose[i] = LONG_AGO;
                why[i] = 0;
                whyNow[i] = 0;
                whyBy[i] = NONE;
            }
            beginCounts();
        }

        void beginCounts() {
            fails = 0;
            firstFail = NEVER;
            leastUp = camp.menOf((1 << camp.companies) - 1);
            warm = 0;
        }

        void copyFrom(State other) {
            camp.copyFrom(other.camp);
            now = other.now;
            x = other.x;
            feastEnd = other.feastEnd;
            asleep = other.asleep;
            menUp = other.menUp;
            System.arraycopy(other.tired, 0, tired, 0, MOST_COMPANIES);
            System.arraycopy(other.stayed, 0, stayed, 0, MOST_COMPANIES);
            System.arraycopy(other.rose, 0, rose, 0, MOST_COMPANIES);
            System.arraycopy(other.why, 0, why, 0, MOST_COMPANIES);
            System.arraycopy(other.whyNow, 0, whyNow, 0, MOST_COMPANIES);
            System.arraycopy(other.whyBy, 0, whyBy, 0, MOST_COMPANIES);
            fails = other.fails;
            firstFail = other.firstFail;
            leastUp = other.leastUp;
            warm = other.warm;
        }

        boolean isAsleep(int company) {
            return (asleep >> company & 1) != 0;
        }

        int upBits() {
            return (1 << camp.companies) - 1 & ~asleep;
        }

        int tiredTogether() {
            int sum = 0;
            for (int i = 0; i < camp.companies; i++) {
                sum += tired[i];
            }
            return sum;
        }

        boolean bedIsTaken(int company) {
            for (int i = 0; i < camp.companies; i++) {
                if (i != company && isAsleep(i) && camp.bed[i] == camp.bed[company]) {
                    return true;
                }
            }
            return false;
        }

        private boolean bedIsWarm(int company) {
            for (int i = 0; i < camp.companies; i++) {
                if (i != company && camp.bed[i] == camp.bed[company] && now - WARM_FOR < rose[i]) {
                    return true;
                }
            }
            return false;
        }

        void lieDown(int company, int reason, int by) {
            asleep |= 1 << company;
            menUp -= camp.men[company];
            keepWhy(company, reason, by);
        }

        void getUp(int company, int reason, int by) {
            asleep &= ~(1 << company);
            menUp += camp.men[company];
            rose[company] = now;
            keepWhy(company, reason, by);
        }

        private void keepWhy(int company, int reason, int by) {
            stayed[company] = 0;
            why[company] = reason;
            whyNow[company] = now;
            whyBy[company] = by;
        }

        int wakeAll() {
            int risen = 0;
            for (int i = 0; i < camp.companies; i++) {
                if (isAsleep(i)) {
                    getUp(i, BY_DRUM, NONE);
                    risen++;
                }
            }
            return risen;
        }

        void passQuarters(Law law, int n) {
            for (int i = 0; i < n; i++) {
                int sleepers = asleep;
                bell = camp.firstBell(now % DAY);
                lieDownBy(law);
                getUpBy(law, sleepers);
                snore();
                tire();
                now++;
            }
        }

        private void lieDownBy(Law law) {
            if (now < feastEnd) {
                return;
            }
            for (int i = 0; i < camp.companies; i++) {
                if (isAsleep(i) || bedIsTaken(i) || camp.firstDuty(i, now % DAY) != NONE) {
                    continue;
                }
                if (law.holds(true, this, i)) {
                    warm += bedIsWarm(i) ? camp.men[i] : 0;
                    lieDown(i, BY_SLEEP_TEST, bell);
                }
            }
        }

        private void getUpBy(Law law, int sleepers) {
            for (int i = 0; i < camp.companies; i++) {
                if ((sleepers >> i & 1) == 0) {
                    continue;
                }
                int duty = camp.firstDuty(i, now % DAY);
                if (duty != NONE) {
                    getUp(i, BY_DUTY, duty);
                } else if (now < feastEnd) {
                    getUp(i, BY_FEAST, NONE);
                } else if (law.holds(false, this, i)) {
                    getUp(i, BY_WAKE_TEST, bell);
                }
            }
        }

        private void snore() {
            for (int i = 0; i < camp.companies; i++) {
                if (isAsleep(i) && draw() % 100 < camp.snore[i]) {
                    wakeNextTo(i);
                }
            }
        }

        private int draw() {
            x = x * 1103515245 + 12345 & GREATEST_X;
            return x / 65536;
        }

        private void wakeNextTo(int company) {
            for (int step = 1; step < camp.companies; step++) {
                int ahead = company + step;
                int i = ahead < camp.companies ? ahead : ahead - camp.companies;
                if (isAsleep(i) && camp.hall[i] == camp.hall[company]) {
                    getUp(i, BY_SNORE, company);
                    return;
                }
            }
        }

        private void tire() {
            for (int i = 0; i < camp.companies; i++) {
                tired[i] = isAsleep(i) ? Math.max(0, tired[i] - 2) : Math.min(MOST_TIRED, tired[i] + 1);
                stayed[i] = Math.min(MOST_STAYED, stayed[i] + 1);
            }
            leastUp = Math.min(leastUp, menUp);
            if (menUp < camp.watch) {
                fails++;
                if (firstFail == NEVER) {
                    firstFail = now;
                }
            }
        }

        int valueOf(int word, int company) {
            switch (word) {
                case WORD_NOW: return now % DAY;
                case WORD_DAY: return now / DAY;
                case WORD_TIRED: return tired[company];
                case WORD_LONG: return stayed[company];
                case WORD_COMPANY: return company;
                case WORD_MEN: return camp.men[company];
                case WORD_HALL: return camp.hall[company];
                case WORD_UP: return menUp;
                case WORD_BELL: return bell == NONE ? 0 : camp.bellTone[bell];
                case WORD_SNORE: return camp.snore[company];
                default: return 0;
            }
        }
    }

    /** Who was up in the last quarters. */
    private static final class Log {
        private final int[] ups = new int[FAR];
        private int newest = NONE;
        int size;

        void clear() {
            size = 0;
        }

        void copyFrom(Log other) {
            System.arraycopy(other.ups, 0, ups, 0, FAR);
            newest = other.newest;
            size = other.size;
        }

        void add(int up) {
            newest = newest + 1 < FAR ? newest + 1 : 0;
            ups[newest] = up;
            size = Math.min(FAR, size + 1);
        }

        int upAgo(int ago) {
            if (ago < 1 || ago > size) {
                return NONE;
            }
            int place = newest + 1 - ago;
            return ups[place < 0 ? place + FAR : place];
        }

        int quartersWith(int bits) {
            int quarters = 0;
            for (int ago = 1; ago <= size; ago++) {
                if ((upAgo(ago) & bits) == bits) {
                    quarters++;
                }
            }
            return quarters;
        }

        int longestRun(int bits) {
            int longest = 0;
            int running = 0;
            for (int ago = 1; ago <= size; ago++) {
                running = (upAgo(ago) & bits) == bits ? running + 1 : 0;
                longest = Math.max(longest, running);
            }
            return longest;
        }

        int quartersOf(int bits) {
            int quarters = 0;
            for (int ago = 1; ago <= size; ago++) {
                if (upAgo(ago) == bits) {
                    quarters++;
                }
            }
            return quarters;
        }

        int lastOf(int bits) {
            for (int ago = 1; ago <= size; ago++) {
                if (upAgo(ago) == bits) {
                    return ago;
                }
            }
            return NEVER;
        }
    }

    /** Plays quarters out on states of its own, so that nothing changes by it. */
    private static final class Forecast {
        static final int LEAST_UP = 0;
        static final int FAILS = 1;
        static final int FIRST_FAIL = 2;
        static final int TIRED = 3;

        private static final int FEAST_BEGINS = 48;
        private static final int LONGEST_FEAST = 16;

        private final State live;
        private final State probe = new State();
        private final State base = new State();
        private final int[] slept = new int[MOST_COMPANIES];
        /** What the last search found, by what is asked for; NEVER in all without it. */
        final int[] found = new int[3];

        Forecast(State live) {
            this.live = live;
        }

        private void restart() {
            probe.copyFrom(live);
            probe.beginCounts();
        }

        private void keep(int first, int second, int third) {
            found[0] = first;
            found[1] = second;
            found[2] = third;
        }

        void play(Law law, int n) {
            restart();
            probe.passQuarters(law, n);
        }

        void playStruck(Law law, int at, int n) {
            restart();
            probe.passQuarters(law, at);
            probe.wakeAll();
            probe.passQuarters(law, n - at);
        }

        int outcome(int what) {
            switch (what) {
                case LEAST_UP: return probe.leastUp;
                case FAILS: return probe.fails;
                case FIRST_FAIL: return probe.firstFail == NEVER ? NEVER : probe.firstFail - live.now;
                case TIRED: return probe.tiredTogether();
                default: return probe.warm;
            }
        }

        /** The later a feast begins the shorter it must be to be better: shorter ones alone are tried. */
        void findTurn(Law law, int wanted, int n) {
            keep(NEVER, NEVER, NEVER);
            int shortest = LONGEST_FEAST + 1;
            base.copyFrom(live);
            base.beginCounts();
            for (int b = 0; b < FEAST_BEGINS; b++) {
                for (int length = 1; length < shortest; length++) {
                    probe.copyFrom(base);
                    probe.feastEnd = probe.now + length;
                    probe.passQuarters(law, n - b);
                    if (probe.asleep == wanted) {
                        shortest = length;
                        keep(b, length, probe.fails);
                    }
                }
                if (b < n) {
                    base.passQuarters(law, 1);
                }
            }
        }

        void findHarm(Law law, int n) {
            keep(NEVER, NEVER, NEVER);
            restart();
            probe.passQuarters(law, n);
            int fewest = probe.fails;
            for (int i = 0; i < live.camp.bells; i++) {
                restart();
                probe.camp.dropBell(i);
                probe.passQuarters(law, n);
                if (probe.fails < fewest) {
                    fewest = probe.fails;
                    keep(i, fewest, NEVER);
                }
            }
        }

        void findFair(Law law, int n) {
            restart();
            int companies = live.camp.companies;
            for (int i = 0; i < companies; i++) {
                slept[i] = 0;
            }
            for (int k = 0; k < n; k++) {
                probe.passQuarters(law, 1);
                for (int i = 0; i < companies; i++) {
                    slept[i] += probe.isAsleep(i) ? 1 : 0;
                }
            }
            int most = 0;
            int fewest = 0;
            for (int i = 1; i < companies; i++) {
                most = slept[i] > slept[most] ? i : most;
                fewest = slept[i] < slept[fewest] ? i : fewest;
            }
            keep(most, fewest, slept[most] - slept[fewest]);
        }

        void findSwap(Law law, int n) {
            keep(NEVER, NEVER, NEVER);
            restart();
            probe.passQuarters(law, n);
            int least = probe.tiredTogether();
            for (int i = 0; i < live.camp.companies; i++) {
                for (int j = i + 1; j < live.camp.companies; j++) {
                    if (live.camp.bed[i] == live.camp.bed[j]) {
                        continue;
                    }
                    restart();
                    probe.camp.exchangeBeds(i, j);
                    probe.passQuarters(law, n);
                    int tired = probe.tiredTogether();
                    if (tired < least) {
                        least = tired;
                        keep(12 * i + j, tired, NEVER);
                    }
                }
            }
        }

        void findStrike(Law law, int n) {
            keep(NEVER, NEVER, NEVER);
            restart();
            probe.passQuarters(law, n);
            int fewest = probe.fails;
            for (int at = 0; at < n; at++) {
                restart();
                probe.passQuarters(law, at);
                probe.wakeAll();
                probe.passQuarters(law, n - at);
                if (probe.fails < fewest) {
                    fewest = probe.fails;
                    keep(at, fewest, NEVER);
                }
            }
        }
    }

    /** What goes from company to company: mutinies and dreams. */
    private static final class Gossip {
        private final State live;
        private final State probe = new State();
        private final int[] ups = new int[FAR];

        Gossip(State live) {
            this.live = live;
        }

        /** Neither mutiny nor dream changes who is up, so this is found once for all of them. */
        void foresee(Law law, int n) {
            probe.copyFrom(live);
            for (int k = 0; k < n && k < FAR; k++) {
                probe.passQuarters(law, 1);
                ups[k] = probe.upBits();
            }
        }

        int menOfMutiny(int company, int b, int n) {
            int members = 1 << company;
            for (int k = b; k < b + n && k < FAR; k++) {
                members = mutinyOn(members, ups[k]);
            }
            return live.camp.menOf(members);
        }

        private int mutinyOn(int members, int up) {
            int grown = members;
            for (int i = 0; i < live.camp.companies; i++) {
                if (((members & up) >> i & 1) != 0) {
                    grown |= firstToWin(i, up & ~grown);
                }
            }
            return grown;
        }

        private int firstToWin(int company, int open) {
            Camp camp = live.camp;
            for (int i = 0; i < camp.companies; i++) {
                boolean near = camp.hall[i] == camp.hall[company] || camp.bed[i] == camp.bed[company];
                if ((open >> i & 1) != 0 && near) {
                    return 1 << i;
                }
            }
            return 0;
        }

        int dreamOn(int knowing, int k) {
            if (k < 0 || k >= FAR) {
                return knowing;
            }
            int known = knowing;
            for (int i = 0; i < live.camp.companies; i++) {
                if (((knowing & ups[k]) >> i & 1) != 0) {
                    known |= ups[k] & alike(live.camp.hall, i);
                }
            }
            int dreamt = known;
            for (int i = 0; i < live.camp.companies; i++) {
                if ((known >> i & 1) != 0) {
                    dreamt |= alike(live.camp.bed, i);
                }
            }
            return dreamt;
        }

        private int alike(int[] places, int company) {
            int bits = 0;
            for (int i = 0; i < live.camp.companies; i++) {
                if (places[i] == places[company]) {
                    bits |= 1 << i;
                }
            }
            return bits;
        }
    }
}
