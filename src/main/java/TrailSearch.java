/**
 * Searches that go back: a PROGRAM is read from THE TAPE, a SEARCH goes through it way by way,
 * and a STRATEGY tells which CHOICE POINT is gone on with. Names in capitals are the document's.
 */
public final class TrailSearch {
    public static final int BAD = -2001, NOT = -2002, STATE = -2003;
    public static final int ANSWERED = 1, PAUSED = 2, DONE = 3, CROWDED = 4, FILLED = 5;

    private static final int NUMBERED = 4;
    private static final int TAPE_MOST = 150;
    private static final int LETTER_MOST = 255;
    private static final int FAULT_BASE = -100;
    private static final int GO_MOST = 500;
    private static final int ALL_MOST = 2000;

    private static final int VARIABLES = 8;
    private static final int VALUE_MOST = 999;
    private static final int NO_VALUE = 999999;
    private static final int DIGITS_MOST = 3;

    private static final int STATEMENTS_MOST = 40;
    private static final int BRACKETS_MOST = 6;
    private static final int PARTS_MOST = 6;
    private static final int POINTS_MOST = 30;
    private static final int ANSWERS_MOST = 60;
    // Far above what any BUDGET needs: between two STEPS a WAY leaves a few brackets at most.
    private static final int MOVES_MOST = 1000000;

    private static final int NONE = -1;
    private static final int GOING = 0;

    private static final int ASSIGN = 1, TEST = 2, UP_TO = 3, AMONG = 4, WAYS = 5;
    private static final int ONCE = 6, NEVER = 7, CUT = 8, TIMES = 9;

    private static final int YOUNGEST = 0, OLDEST = 1, CHEAP_OLDEST = 2, CHEAP_YOUNGEST = 3;
    private static final int STRAIGHTEST = 4, DEEPER = 5;

    private static final int ABSENT = 0, BEGUN = 1, OVER = 2;

    // The numbers by which of() is asked.
    private static final int OF_STAGE = 0, OF_ANSWERS = 1, OF_STEPS = 2, OF_OPEN = 3, OF_MOST = 4;
    private static final int OF_MADE = 5, OF_TAKEN = 6, OF_GONE = 7, OF_UNDONE = 8, OF_LIMIT = 9;

    // The numbers by which answer() is asked, behind the VARIABLES.
    private static final int ANSWER_DEPTH = 8, ANSWER_TURNS = 9, ANSWER_COST = 10, ANSWER_STEPS = 11;
    private static final int ANSWER_FIELDS = 12;

    // The numbers by which open() is asked.
    private static final int OPEN_DEPTH = 0, OPEN_TURNS = 1, OPEN_COST = 2, OPEN_LEFT = 3;
    private static final int OPEN_VARIABLES = 4, OPEN_FIELDS = 12;

    private final Tape tape;
    private final Reader reader;
    private final Program[] programs;
    private final Search[] searches;
    private final Search thought;

    public TrailSearch() {
        tape = new Tape();
        reader = new Reader(tape);
        programs = new Program[NUMBERED];
        searches = new Search[NUMBERED];
        for (int k = 0; k < NUMBERED; k++) {
            programs[k] = new Program();
            searches[k] = new Search();
        }
        thought = new Search();
    }

    public int feed(int letter) {
        if (letter < 1 || letter > LETTER_MOST) {
            return BAD;
        }
        return tape.add(letter) ? tape.size : NOT;
    }

    public int program(int k) {
        Program kept = programAt(k);
        if (kept == null) {
            return BAD;
        }
        int fault = reader.readProgram();
        tape.clear();
        if (fault != NONE) {
            return FAULT_BASE - fault;
        }
        kept.become(reader.draft);
        return kept.size;
    }

    public int cost(int k) {
        Program kept = programAt(k);
        if (kept == null) {
            return BAD;
        }
        if (kept.size == 0) {
            return STATE;
        }
        int fault = reader.readCost();
        tape.clear();
        if (fault != NONE) {
            return FAULT_BASE - fault;
        }
        kept.price.become(reader.draft.price);
        return 1;
    }

    public int begin(int search, int program, int strategy) {
        Search begun = searchAt(search);
        if (begun == null || strategy < YOUNGEST || strategy > DEEPER) {
            return BAD;
        }
        Program of = programAt(program);
        if (of == null || of.size == 0) {
            return STATE;
        }
        begun.start(of, strategy);
        return 1;
    }

    public int go(int search, int budget) {
        Search gone = searchAt(search);
        if (gone == null || budget < 1 || budget > GO_MOST) {
            return BAD;
        }
        return gone.stage == BEGUN ? gone.run(budget, true) : STATE;
    }

    public int all(int search, int budget) {
        Search gone = searchAt(search);
        if (gone == null || budget < 1 || budget > ALL_MOST) {
            return BAD;
        }
        if (gone.stage != BEGUN) {
            return STATE;
        }
        int before = gone.answers.size;
        gone.run(budget, false);
        return gone.answers.size - before;
    }

    public int of(int search, int what) {
        Search asked = searchAt(search);
        if (asked == null || what < OF_STAGE || what > OF_LIMIT) {
            return BAD;
        }
        if (what == OF_STAGE) {
            return asked.stage;
        }
        return asked.stage == ABSENT ? STATE : asked.tell(what);
    }

    public int answer(int search, int i, int what) {
        Search asked = searchAt(search);
        if (asked == null || i < 0 || what < 0 || what >= ANSWER_FIELDS) {
            return BAD;
        }
        if (asked.stage == ABSENT) {
            return STATE;
        }
        return i < asked.answers.size ? asked.answers.field(i, what) : NOT;
    }

    public int open(int search, int i, int what) {
        Search asked = searchAt(search);
        if (asked == null || i < 0 || what < 0 || what >= OPEN_FIELDS) {
            return BAD;
        }
        if (asked.stage == ABSENT) {
            return STATE;
        }
        Point point = asked.points.openAt(i);
        return point == null ? NOT : point.tell(what);
    }

    public int next(int search) {
        Search asked = searchAt(search);
        if (asked == null) {
            return BAD;
        }
        if (asked.stage == ABSENT) {
            return STATE;
        }
        return asked.mayTake() ? asked.chosen() : NOT;
    }

    public int ordered(int search, int i) {
        Search asked = searchAt(search);
        if (asked == null || i < 0) {
            return BAD;
        }
        if (asked.stage == ABSENT) {
            return STATE;
        }
        return i < asked.answers.size ? asked.answers.ranked(i) : NOT;
    }

    public int common(int a, int b) {
        Search one = searchAt(a);
        Search other = searchAt(b);
        if (one == null || other == null) {
            return BAD;
        }
        if (one.stage == ABSENT || other.stage == ABSENT) {
            return STATE;
        }
        return one.answers.sharedWith(other.answers);
    }

    public int unlike(int search) {
        Search asked = searchAt(search);
        if (asked == null) {
            return BAD;
        }
        return asked.stage == ABSENT ? STATE : asked.answers.different();
    }

    public int turn(int search, int strategy) {
        Search turned = searchAt(search);
        if (turned == null || strategy < YOUNGEST || strategy > STRAIGHTEST) {
            return BAD;
        }
        if (turned.stage == ABSENT || turned.strategy == DEEPER) {
            return STATE;
        }
        int before = turned.strategy;
        turned.strategy = strategy;
        return before;
    }

    public int copy(int from, int to) {
        Search source = searchAt(from);
        Search target = searchAt(to);
        if (source == null || target == null) {
            return BAD;
        }
        if (source.stage == ABSENT) {
            return STATE;
        }
        if (target != source) {
            target.become(source);
        }
        return target.answers.size;
    }

    public int would(int search, int budget, int what) {
        Search asked = searchAt(search);
        if (asked == null || budget < 1 || budget > GO_MOST || what < 0 || what > 2) {
            return BAD;
        }
        if (asked.stage == ABSENT) {
            return STATE;
        }
        thought.become(asked);
        if (thought.stage == BEGUN) {
            thought.run(budget, false);
        }
        if (what == 0) {
            return thought.answers.size;
        }
        if (what == 1) {
            return thought.stage == OVER ? 1 : 0;
        }
        return thought.tell(OF_STEPS);
    }

    public int count(int what) {
        switch (what) {
            case 0:
                return countPrograms();
            case 1:
                return tape.size;
            case 2:
                return countUndone();
            case 3:
                return countAnswers();
            default:
                return BAD;
        }
    }

    private int countPrograms() {
        int found = 0;
        for (Program program : programs) {
            found += program.size > 0 ? 1 : 0;
        }
        return found;
    }

    private int countUndone() {
        int found = 0;
        for (Search search : searches) {
            found += search.stage == BEGUN ? 1 : 0;
        }
        return found;
    }

    private int countAnswers() {
        int found = 0;
        for (Search search : searches) {
            found += search.answers.size;
        }
        return found;
    }

    private Program programAt(int k) {
        return k >= 0 && k < programs.length ? programs[k] : null;
    }

    private Search searchAt(int k) {
        return k >= 0 && k < searches.length ? searches[k] : null;
    }

    private static boolean isValue(int number) {
        return number >= -VALUE_MOST && number <= VALUE_MOST;
    }

    /** THE TAPE: the bytes that came since it was read last. */
    private static final class Tape {
        private final int[] bytes;
        private int size;

        Tape() {
            bytes = new int[TAPE_MOST];
        }

        boolean add(int letter) {
            if (size < 0 || size >= bytes.length) {
                return false;
            }
            bytes[size] = letter;
            size++;
            return true;
        }

        void clear() {
            size = 0;
        }

        /** The byte at a place, or 0, which no byte is, where there is none. */
        int at(int place) {
            return place >= 0 && place < size && place < bytes.length ? bytes[place] : 0;
        }
    }

    /**
     * E's one behind the other, each as its factors from the left: a factor is joined to what
     * stands before it, so that one run over them works an E out without a stack.
     */
    private static final class Formulas {
        private static final int FIRST = 0, PLUS = 1, MINUS = 2, BY = 3;
        private static final int VARIABLE_BASE = 1000;

        private final int[] joins;
        private final int[] factors;
        private final int[] begins;
        private int size;
        private int formulas;

        Formulas() {
            joins = new int[TAPE_MOST];
            factors = new int[TAPE_MOST];
            begins = new int[TAPE_MOST];
        }

        void clear() {
            size = 0;
            formulas = 0;
        }

        void become(Formulas other) {
            System.arraycopy(other.joins, 0, joins, 0, TAPE_MOST);
            System.arraycopy(other.factors, 0, factors, 0, TAPE_MOST);
            System.arraycopy(other.begins, 0, begins, 0, TAPE_MOST);
            size = other.size;
            formulas = other.formulas;
        }

        void startFormula() {
            if (formulas >= 0 && formulas < begins.length) {
                begins[formulas] = size;
                formulas++;
            }
        }

        /** A factor is the number or VARIABLE_BASE and the VARIABLE; below 0 when it is negated. */
        void addFactor(int join, int plain, boolean negative) {
            if (size >= 0 && size < factors.length) {
                joins[size] = join;
                factors[size] = negative ? -1 - plain : plain;
                size++;
            }
        }

        /** What the E is, or NO_VALUE if any part of it isn't a VALUE. */
        int worth(int formula, int[] values) {
            if (formula < 0 || formula >= formulas || formula >= begins.length) {
                return NO_VALUE;
            }
            int sum = 0;
            int sign = 1;
            int product = 0;
            int first = begins[formula];
            int end = endOf(formula);
            for (int i = first; i < end; i++) {
                int factor = factorWorth(i, values);
                int join = joinAt(i);
                if (join == BY) {
                    product = product * factor;
                } else {
                    sum = sum + sign * product;
                    sign = join == MINUS ? -1 : 1;
                    product = factor;
                }
                if (!isValue(product) || !isValue(sum)) {
                    return NO_VALUE;
                }
            }
            sum = sum + sign * product;
            return isValue(sum) ? sum : NO_VALUE;
        }

        private int endOf(int formula) {
            int behind = formula + 1;
            return behind >= 0 && behind < formulas && behind < begins.length ? begins[behind] : size;
        }

        private int joinAt(int i) {
            return i >= 0 && i < joins.length ? joins[i] : FIRST;
        }

        private int factorWorth(int i, int[] values) {
            int factor = i >= 0 && i < factors.length ? factors[i] : 0;
            int plain = factor < 0 ? -1 - factor : factor;
            int variable = plain - VARIABLE_BASE;
            int worth = variable >= 0 && variable < values.length ? values[variable] : plain;
            return factor < 0 ? -worth : worth;
        }
    }

    /**
     * The S's of a PROGRAM in the order of their begins, with what stands behind and around each;
     * and THE COST. A size of 0 is no PROGRAM.
     */
    private static final class Program {
        private final int[] kinds;
        private final int[] details; // the VARIABLE, the sign of a TEST, the digit of TIMES
        private final int[] firstFormulas;
        private final int[] behinds; // the next S of the same P
        private final int[] arounds; // the S whose bracket stands around it
        private final int[] levels; // how many brackets stand around it
        private final int[] parts; // how many P's it has
        private final int[] partFirsts; // the first S of each P
        private final Formulas formulas;
        private final Formulas price;
        private int size;

        Program() {
            kinds = new int[STATEMENTS_MOST];
            details = new int[STATEMENTS_MOST];
            firstFormulas = new int[STATEMENTS_MOST];
            behinds = new int[STATEMENTS_MOST];
            arounds = new int[STATEMENTS_MOST];
            levels = new int[STATEMENTS_MOST];
            parts = new int[STATEMENTS_MOST];
            partFirsts = new int[STATEMENTS_MOST * PARTS_MOST];
            formulas = new Formulas();
            price = new Formulas();
        }

        void clear() {
            size = 0;
            formulas.clear();
            price.clear();
        }

        void become(Program other) {
            System.arraycopy(other.kinds, 0, kinds, 0, STATEMENTS_MOST);
            System.arraycopy(other.details, 0, details, 0, STATEMENTS_MOST);
            System.arraycopy(other.firstFormulas, 0, firstFormulas, 0, STATEMENTS_MOST);
            System.arraycopy(other.behinds, 0, behinds, 0, STATEMENTS_MOST);
            System.arraycopy(other.arounds, 0, arounds, 0, STATEMENTS_MOST);
            System.arraycopy(other.levels, 0, levels, 0, STATEMENTS_MOST);
            System.arraycopy(other.parts, 0, parts, 0, STATEMENTS_MOST);
            System.arraycopy(other.partFirsts, 0, partFirsts, 0, STATEMENTS_MOST * PARTS_MOST);
            formulas.become(other.formulas);
            price.become(other.price);
            size = other.size;
        }

        /** The new S, or NONE where there is no room for one. */
        int addStatement(int kind, int detail, int around, int level) {
            int s = size;
            if (s < 0 || s >= kinds.length) {
                return NONE;
            }
            kinds[s] = kind;
            details[s] = detail;
            firstFormulas[s] = formulas.formulas;
            behinds[s] = NONE;
            arounds[s] = around;
            levels[s] = level;
            parts[s] = 0;
            size++;
            return s;
        }

        void linkBehind(int before, int s) {
            if (has(before)) {
                behinds[before] = s;
            }
        }

        boolean addPart(int s) {
            if (!has(s) || parts[s] >= PARTS_MOST) {
                return false;
            }
            parts[s]++;
            return true;
        }

        /** The S begins the P of the one around it that was added last. */
        void linkFirst(int around, int s) {
            int slot = has(around) ? around * PARTS_MOST + parts[around] - 1 : NONE;
            if (slot >= 0 && slot < partFirsts.length) {
                partFirsts[slot] = s;
            }
        }

        void setDetail(int s, int detail) {
            if (has(s)) {
                details[s] = detail;
            }
        }

        boolean has(int s) {
            return s >= 0 && s < size && s < kinds.length;
        }

        int kindOf(int s) {
            return has(s) ? kinds[s] : NONE;
        }

        int detailOf(int s) {
            return has(s) ? details[s] : 0;
        }

        int behind(int s) {
            return has(s) ? behinds[s] : NONE;
        }

        int around(int s) {
            return has(s) ? arounds[s] : NONE;
        }

        int levelOf(int s) {
            return has(s) ? levels[s] : 0;
        }

        int partsOf(int s) {
            return has(s) ? parts[s] : 0;
        }

        int partFirst(int s, int part) {
            int slot = has(s) && part >= 0 && part < PARTS_MOST ? s * PARTS_MOST + part : NONE;
            return slot >= 0 && slot < partFirsts.length ? partFirsts[slot] : NONE;
        }

        /** Where the E's of an S begin among all of them; where it has none, those behind it do. */
        int formulaOf(int s) {
            return has(s) ? firstFormulas[s] : formulas.formulas;
        }

        int priceOf(int[] values) {
            return price.formulas == 0 ? 0 : price.worth(0, values);
        }
    }

    /**
     * Reads THE TAPE from the left. Each reading method stops with its place at the FAULT and
     * answers false there; so the place is all that has to be told.
     */
    private static final class Reader {
        private final Tape tape;
        private final int[] opened; // the S's whose brackets are open, the outermost first
        private final int[] befores; // for each level the S before in its P, or NONE
        private final Program draft; // what was read so far
        private int place;
        private int open;
        private boolean due; // an S has to begin here
        private boolean ended;

        Reader(Tape tape) {
            this.tape = tape;
            opened = new int[BRACKETS_MOST];
            befores = new int[BRACKETS_MOST + 1];
            draft = new Program();
        }

        /** The FAULT, or NONE. */
        int readProgram() {
            draft.clear();
            place = 0;
            open = 0;
            due = true;
            ended = false;
            setBefore(NONE);
            // Each round takes a byte at least, or ends the reading.
            for (int round = 0; round <= TAPE_MOST && !ended; round++) {
                boolean fine = due ? readStatement() : readBehind();
                if (!fine) {
                    return place;
                }
            }
            return ended ? NONE : place;
        }

        /** The FAULT, or NONE. */
        int readCost() {
            draft.clear();
            place = 0;
            boolean fine = readFormula(draft.price);
            return fine && place == tape.size ? NONE : place;
        }

        private boolean readStatement() {
            if (draft.size >= STATEMENTS_MOST) {
                return false;
            }
            int letter = tape.at(place);
            int second = tape.at(place + 1);
            if (letter == '(') {
                return openBracket(addStatement(WAYS, 0));
            }
            if (letter == '[') {
                return openBracket(addStatement(ONCE, 0));
            }
            if (letter == '~') {
                place++;
                return tape.at(place) == '[' && openBracket(addStatement(NEVER, 0));
            }
            if (letter == '!') {
                addStatement(CUT, 0);
                place++;
                return true;
            }
            if (letter >= '1' && letter <= '9' && second == '*' && tape.at(place + 2) == '(') {
                place += 2;
                return openBracket(addStatement(TIMES, letter - '0'));
            }
            if (isVariable(letter) && second == ':') {
                place += 2;
                addStatement(ASSIGN, letter - 'a');
                return readFormula(draft.formulas);
            }
            if (isVariable(letter) && second == '?') {
                place += 2;
                return readChoose(letter - 'a');
            }
            return readTest();
        }

        private int addStatement(int kind, int detail) {
            int around = open >= 1 && open <= opened.length ? opened[open - 1] : NONE;
            int s = draft.addStatement(kind, detail, around, open);
            int before = open >= 0 && open < befores.length ? befores[open] : NONE;
            if (before == NONE) {
                draft.linkFirst(around, s);
            } else {
                draft.linkBehind(before, s);
            }
            setBefore(s);
            due = false;
            return s;
        }

        private void setBefore(int s) {
            if (open >= 0 && open < befores.length) {
                befores[open] = s;
            }
        }

        private boolean openBracket(int s) {
            if (open < 0 || open >= opened.length) {
                return false;
            }
            draft.addPart(s);
            opened[open] = s;
            open++;
            setBefore(NONE);
            place++;
            due = true;
            return true;
        }

        private boolean readChoose(int variable) {
            if (tape.at(place) != '{') {
                addStatement(UP_TO, variable);
                return readFormula(draft.formulas) && readSign(',') && readFormula(draft.formulas);
            }
            addStatement(AMONG, variable);
            place++;
            for (int i = 0; i < PARTS_MOST; i++) {
                if (!readFormula(draft.formulas)) {
                    return false;
                }
                if (tape.at(place) != ',') {
                    return readSign('}');
                }
                if (i + 1 < PARTS_MOST) {
                    place++;
                }
            }
            return false;
        }

        private boolean readTest() {
            int letter = tape.at(place);
            if (!isVariable(letter) && !isDigit(letter) && letter != '-') {
                return false;
            }
            int s = addStatement(TEST, 0);
            if (!readFormula(draft.formulas)) {
                return false;
            }
            int sign = tape.at(place);
            if (sign != '<' && sign != '=' && sign != '>' && sign != '#') {
                return false;
            }
            draft.setDetail(s, sign);
            place++;
            return readFormula(draft.formulas);
        }

        private boolean readSign(int sign) {
            if (tape.at(place) != sign) {
                return false;
            }
            place++;
            return true;
        }

        private boolean readFormula(Formulas formulas) {
            formulas.startFormula();
            int join = Formulas.FIRST;
            for (int i = 0; i <= TAPE_MOST; i++) {
                if (!readFactor(formulas, join)) {
                    return false;
                }
                join = joinOf(tape.at(place));
                if (join == Formulas.FIRST) {
                    return true;
                }
                place++;
            }
            return false;
        }

        private static int joinOf(int letter) {
            if (letter == '+') {
                return Formulas.PLUS;
            }
            if (letter == '-') {
                return Formulas.MINUS;
            }
            return letter == '*' ? Formulas.BY : Formulas.FIRST;
        }

        private boolean readFactor(Formulas formulas, int join) {
            boolean negative = false;
            for (int i = 0; i < TAPE_MOST && tape.at(place) == '-'; i++) {
                negative = !negative;
                place++;
            }
            int letter = tape.at(place);
            if (isVariable(letter)) {
                formulas.addFactor(join, Formulas.VARIABLE_BASE + letter - 'a', negative);
                place++;
                return true;
            }
            if (!isDigit(letter)) {
                return false;
            }
            int number = 0;
            for (int i = 0; i < DIGITS_MOST && isDigit(tape.at(place)); i++) {
                number = number * 10 + tape.at(place) - '0';
                place++;
            }
            formulas.addFactor(join, number, negative);
            return true;
        }

        /** What may stand behind an S: another one, another P, an end of a bracket, the end. */
        private boolean readBehind() {
            int around = open >= 1 && open <= opened.length ? opened[open - 1] : NONE;
            int kind = draft.kindOf(around);
            int letter = tape.at(place);
            if (letter == ';') {
                due = true;
            } else if (letter == '|' && kind == WAYS) {
                if (!draft.addPart(around)) {
                    return false;
                }
                setBefore(NONE);
                due = true;
            } else if (letter == ')' && (kind == WAYS || kind == TIMES)) {
                open--;
            } else if (letter == ']' && (kind == ONCE || kind == NEVER)) {
                open--;
            } else {
                ended = open == 0 && place == tape.size;
                return ended;
            }
            place++;
            return true;
        }

        private static boolean isVariable(int letter) {
            return letter >= 'a' && letter < 'a' + VARIABLES;
        }

        private static boolean isDigit(int letter) {
            return letter >= '0' && letter <= '9';
        }
    }

    /** A WAY: where it stands, with its VALUES and what it came through. */
    private static final class Way {
        private final int[] values;
        private final int[] marks; // for each level its DEPTH when the bracket's P or round was begun
        private final int[] rounds; // for each level the rounds of TIMES that are left
        private int at; // the S to be begun, or NONE at the end of a P
        private int within; // the S around it, or NONE
        private int depth;
        private int turns;
        private int came; // bit i: it came through the i-th of the points with something left

        Way() {
            values = new int[VARIABLES];
            marks = new int[BRACKETS_MOST + 1];
            rounds = new int[BRACKETS_MOST + 1];
        }

        void start() {
            for (int v = 0; v < values.length; v++) {
                values[v] = 0;
            }
            at = 0;
            within = NONE;
            depth = 0;
            turns = 0;
            came = 0;
            setMark(0);
        }

        void become(Way other) {
            System.arraycopy(other.values, 0, values, 0, VARIABLES);
            System.arraycopy(other.marks, 0, marks, 0, BRACKETS_MOST + 1);
            System.arraycopy(other.rounds, 0, rounds, 0, BRACKETS_MOST + 1);
            at = other.at;
            within = other.within;
            depth = other.depth;
            turns = other.turns;
            came = other.came;
        }

        /** It begins a P or a round of the S, whose inside is of that level. */
        void enter(int s, int first, int level) {
            within = s;
            at = first;
            setMark(level);
        }

        void setMark(int level) {
            if (level >= 0 && level < marks.length) {
                marks[level] = depth;
            }
        }

        int markAt(int level) {
            return level >= 0 && level < marks.length ? marks[level] : 0;
        }

        void setRounds(int level, int left) {
            if (level >= 0 && level < rounds.length) {
                rounds[level] = left;
            }
        }

        int roundsAt(int level) {
            return level >= 0 && level < rounds.length ? rounds[level] : 0;
        }

        void setValue(int variable, int value) {
            if (variable >= 0 && variable < values.length) {
                values[variable] = value;
            }
        }

        int valueOf(int variable) {
            return variable >= 0 && variable < values.length ? values[variable] : 0;
        }

        int unlikeValues(Way other) {
            int found = 0;
            for (int v = 0; v < VARIABLES; v++) {
                found += valueOf(v) != other.valueOf(v) ? 1 : 0;
            }
            return found;
        }
    }

    /** A CHOICE POINT: the WAY that made it, as it ended, and what there is to choose. */
    private static final class Point {
        private final Way maker;
        private final int[] among;
        private int low; // up to: the first value
        private int choices;
        private int taken;
        private int price;

        Point() {
            maker = new Way();
            among = new int[PARTS_MOST];
        }

        void become(Point other) {
            maker.become(other.maker);
            System.arraycopy(other.among, 0, among, 0, PARTS_MOST);
            low = other.low;
            choices = other.choices;
            taken = other.taken;
            price = other.price;
        }

        int left() {
            return choices - taken;
        }

        int amongAt(int i) {
            return i >= 0 && i < among.length ? among[i] : 0;
        }

        int tell(int what) {
            switch (what) {
                case OPEN_DEPTH:
                    return maker.depth;
                case OPEN_TURNS:
                    return maker.turns;
                case OPEN_COST:
                    return price;
                case OPEN_LEFT:
                    return left();
                default:
                    return maker.valueOf(what - OPEN_VARIABLES);
            }
        }

        /** By what the STRATEGY goes, the least first; alike where only the age counts. */
        int weight(int strategy) {
            if (strategy == CHEAP_OLDEST || strategy == CHEAP_YOUNGEST) {
                return price;
            }
            if (strategy == STRAIGHTEST) {
                return maker.turns + (taken > 0 ? 1 : 0);
            }
            return 0;
        }
    }

    /** CHOICE POINTS with something left, the oldest first; their rows are used again. */
    private static final class Points {
        private final Point[] rows;
        private int size;

        Points() {
            // One more than there may be: a point is made ready before it is known to be kept.
            rows = new Point[POINTS_MOST + 1];
            for (int i = 0; i < rows.length; i++) {
                rows[i] = new Point();
            }
        }

        void become(Points other) {
            size = other.size;
            for (int i = 0; i < size && i < rows.length; i++) {
                rows[i].become(other.rows[i]);
            }
        }

        /** The row behind the last one, for a new point. */
        Point spare() {
            return size >= 0 && size < rows.length ? rows[size] : null;
        }

        Point openAt(int i) {
            return i >= 0 && i < size && i < rows.length ? rows[i] : null;
        }

        /** Nothing is left of the i-th: it goes from the row, and from what ways came through. */
        void remove(int i, Way way) {
            if (i < 0 || i >= size || size > rows.length) {
                return;
            }
            Point gone = rows[i];
            for (int k = i; k + 1 < size; k++) {
                rows[k] = rows[k + 1];
            }
            size--;
            rows[size] = gone;
            for (int k = 0; k < size; k++) {
                rows[k].maker.came = withoutBit(rows[k].maker.came, i);
            }
            way.came = withoutBit(way.came, i);
        }

        private static int withoutBit(int bits, int i) {
            int below = bits & ((1 << i) - 1);
            int above = bits >>> (i + 1) << i;
            return below | above;
        }

        /** Nothing is left of those that the WAY came through since a DEPTH: how many went. */
        int drop(Way way, int since) {
            int gone = 0;
            for (int i = size - 1; i >= 0; i--) {
                Point point = openAt(i);
                boolean through = (way.came >>> i & 1) == 1;
                if (point != null && through && point.maker.depth >= since) {
                    remove(i, way);
                    gone++;
                }
            }
            return gone;
        }
    }

    /** The ANSWERS of a SEARCH, as they came, by the numbers of answer(). */
    private static final class Answers {
        private final int[] fields;
        private int size;

        Answers() {
            fields = new int[ANSWERS_MOST * ANSWER_FIELDS];
        }

        void become(Answers other) {
            size = other.size;
            System.arraycopy(other.fields, 0, fields, 0, ANSWERS_MOST * ANSWER_FIELDS);
        }

        boolean add(Way way, int price, int steps) {
            if (size < 0 || size >= ANSWERS_MOST) {
                return false;
            }
            for (int v = 0; v < VARIABLES; v++) {
                setField(size, v, way.valueOf(v));
            }
            setField(size, ANSWER_DEPTH, way.depth);
            setField(size, ANSWER_TURNS, way.turns);
            setField(size, ANSWER_COST, price);
            setField(size, ANSWER_STEPS, steps);
            size++;
            return true;
        }

        private void setField(int i, int what, int value) {
            int slot = i * ANSWER_FIELDS + what;
            if (slot >= 0 && slot < fields.length) {
                fields[slot] = value;
            }
        }

        int field(int i, int what) {
            int slot = i * ANSWER_FIELDS + what;
            return slot >= 0 && slot < fields.length ? fields[slot] : 0;
        }

        /** The ANSWER before which just so many stand, by COST and as they came. */
        int ranked(int place) {
            for (int i = 0; i < size; i++) {
                if (rankOf(i) == place) {
                    return i;
                }
            }
            return NONE;
        }

        private int rankOf(int i) {
            int price = field(i, ANSWER_COST);
            int before = 0;
            for (int k = 0; k < size; k++) {
                int other = field(k, ANSWER_COST);
                before += other < price || other == price && k < i ? 1 : 0;
            }
            return before;
        }

        int sharedWith(Answers other) {
            int found = 0;
            for (int i = 0; i < size; i++) {
                found += other.hasLike(this, i, other.size) ? 1 : 0;
            }
            return found;
        }

        int different() {
            int found = 0;
            for (int i = 0; i < size; i++) {
                found += hasLike(this, i, i) ? 0 : 1;
            }
            return found;
        }

        /** Whether one of the first so many has all VALUES of another's i-th. */
        private boolean hasLike(Answers other, int i, int among) {
            for (int k = 0; k < among; k++) {
                if (alike(k, other, i)) {
                    return true;
                }
            }
            return false;
        }

        private boolean alike(int k, Answers other, int i) {
            for (int v = 0; v < VARIABLES; v++) {
                if (field(k, v) != other.field(i, v)) {
                    return false;
                }
            }
            return true;
        }
    }

    /**
     * A SEARCH. The WAY that stands is that of the innermost NOT it is in; the ways around it wait
     * at their NOTs. What needs no STEP is done at once, so a pause is always before a STEP.
     */
    private static final class Search {
        private final Program program;
        private final Answers answers;
        private final Points points;
        private final Points inner; // those of the NOTs, the outermost NOT's first
        private final Way[] ways; // the WAY of the SEARCH, then one for each NOT it stands in
        private final int[] bases; // for each NOT how many points were inner before it
        private final int[] tallies; // by the numbers of of()
        private int stage;
        private int strategy;
        private int limit;
        private boolean tooDeep; // a WAY failed by the LIMIT that is
        private int nest; // how many NOTs it stands in
        private boolean standing; // a WAY stands, in the innermost NOT
        private int budget;

        Search() {
            program = new Program();
            answers = new Answers();
            points = new Points();
            inner = new Points();
            ways = new Way[BRACKETS_MOST + 1];
            for (int i = 0; i < ways.length; i++) {
                ways[i] = new Way();
            }
            bases = new int[BRACKETS_MOST + 1];
            tallies = new int[OF_LIMIT];
        }

        void start(Program of, int by) {
            program.become(of);
            strategy = by;
            stage = BEGUN;
            answers.size = 0;
            points.size = 0;
            for (int i = 0; i < tallies.length; i++) {
                tallies[i] = 0;
            }
            limit = 0;
            startWay();
        }

        private void startWay() {
            tooDeep = false;
            nest = 0;
            inner.size = 0;
            standing = true;
            currentWay().start();
        }

        void become(Search other) {
            program.become(other.program);
            answers.become(other.answers);
            points.become(other.points);
            inner.become(other.inner);
            for (int i = 0; i < ways.length; i++) {
                ways[i].become(other.ways[i]);
            }
            System.arraycopy(other.bases, 0, bases, 0, BRACKETS_MOST + 1);
            System.arraycopy(other.tallies, 0, tallies, 0, OF_LIMIT);
            stage = other.stage;
            strategy = other.strategy;
            limit = other.limit;
            tooDeep = other.tooDeep;
            nest = other.nest;
            standing = other.standing;
        }

        int tell(int what) {
            switch (what) {
                case OF_ANSWERS:
                    return answers.size;
                case OF_OPEN:
                    return points.size;
                case OF_LIMIT:
                    return strategy == DEEPER ? limit : NOT;
                default:
                    return what >= 0 && what < tallies.length ? tallies[what] : 0;
            }
        }

        private void tally(int what, int more) {
            if (what >= 0 && what < tallies.length) {
                tallies[what] += more;
            }
        }

        /** Whether a TAKING of an OPEN one comes next. */
        boolean mayTake() {
            return stage == BEGUN && nest == 0 && !standing && points.size > 0;
        }

        /** Which OPEN one the STRATEGY tells. */
        int chosen() {
            boolean oldest = strategy == OLDEST || strategy == CHEAP_OLDEST;
            int best = NONE;
            int least = 0;
            for (int i = 0; i < points.size; i++) {
                Point point = points.openAt(i);
                int weight = point == null ? 0 : point.weight(strategy);
                if (best == NONE || weight < least || weight == least && !oldest) {
                    best = i;
                    least = weight;
                }
            }
            return best;
        }

        /** Goes on till it is done, a BUDGET is out or (if told so) an ANSWER came: which. */
        int run(int steps, boolean tillAnswer) {
            budget = steps;
            for (int move = 0; move < MOVES_MOST; move++) {
                Way way = currentWay();
                int came;
                if (!standing) {
                    came = goBack(way);
                } else if (way.at == NONE) {
                    came = endPart(way);
                } else {
                    came = spend() ? beginStatement(way) : PAUSED;
                }
                if (came != GOING && (came != ANSWERED || tillAnswer)) {
                    return came;
                }
            }
            return PAUSED;
        }

        private boolean spend() {
            if (budget <= 0) {
                return false;
            }
            budget--;
            tally(OF_STEPS, 1);
            return true;
        }

        private int finish(int how) {
            stage = OVER;
            return how;
        }

        /** The WAY fails, or it made a point: either way it goes on no more. */
        private int endWay() {
            standing = false;
            return GOING;
        }

        private Way currentWay() {
            return ways[nest >= 0 && nest < ways.length ? nest : 0];
        }

        /** No WAY stands: a point is TAKEN, or the search of the NOT or the whole one is over. */
        private int goBack(Way way) {
            if (nest > 0) {
                return goBackInNot();
            }
            if (points.size == 0) {
                return goDeeper();
            }
            if (!spend()) {
                return PAUSED;
            }
            int i = chosen();
            Point point = points.openAt(i);
            if (point != null) {
                tally(OF_TAKEN, 1);
                tally(OF_UNDONE, way.unlikeValues(point.maker));
            }
            take(points, i);
            return GOING;
        }

        private int goBackInNot() {
            if (inner.size <= baseOfNot()) {
                nest--;
                standing = true;
                Way way = currentWay();
                way.at = program.behind(way.at);
                return GOING;
            }
            if (!spend()) {
                return PAUSED;
            }
            take(inner, inner.size - 1);
            return GOING;
        }

        private int baseOfNot() {
            return nest >= 0 && nest < bases.length ? bases[nest] : 0;
        }

        private int goDeeper() {
            if (strategy != DEEPER || !tooDeep) {
                return finish(DONE);
            }
            limit++;
            startWay();
            return GOING;
        }

        private void take(Points from, int i) {
            Point point = from.openAt(i);
            if (point == null) {
                return;
            }
            Way way = currentWay();
            int choice = point.taken;
            point.taken++;
            way.become(point.maker);
            way.came |= 1 << i;
            way.depth++;
            way.turns += choice > 0 ? 1 : 0;
            int s = way.at;
            int kind = program.kindOf(s);
            if (kind == WAYS) {
                way.enter(s, program.partFirst(s, choice), program.levelOf(s) + 1);
            } else {
                int value = kind == UP_TO ? point.low + choice : point.amongAt(choice);
                way.setValue(program.detailOf(s), value);
                way.at = program.behind(s);
            }
            if (point.left() <= 0) {
                from.remove(i, way);
            }
            standing = true;
        }

        /** The WAY is through with the P of the S around it. */
        private int endPart(Way way) {
            int s = way.within;
            int kind = program.kindOf(s);
            int level = program.levelOf(s) + 1;
            if (s == NONE || kind == NEVER) {
                return through(way);
            }
            if (kind == TIMES && way.roundsAt(level) > 0) {
                if (!spend()) {
                    return PAUSED;
                }
                way.setRounds(level, way.roundsAt(level) - 1);
                way.enter(s, program.partFirst(s, 0), level);
                return GOING;
            }
            if (kind == ONCE) {
                drop(way, way.markAt(level));
            }
            way.within = program.around(s);
            way.at = program.behind(s);
            return GOING;
        }

        /** The WAY is through with the PROGRAM, or with the P of the NOT it is in. */
        private int through(Way way) {
            standing = false;
            if (nest > 0) {
                inner.size = baseOfNot();
                nest--;
                return GOING;
            }
            if (strategy == DEEPER && way.depth != limit) {
                return GOING;
            }
            boolean kept = answers.add(way, program.priceOf(way.values), tell(OF_STEPS));
            return kept ? ANSWERED : finish(FILLED);
        }

        private int beginStatement(Way way) {
            int s = way.at;
            switch (program.kindOf(s)) {
                case ASSIGN:
                    return assign(way, s);
                case TEST:
                    return test(way, s);
                case UP_TO:
                case AMONG:
                case WAYS:
                    return choose(way, s);
                case NEVER:
                    return beginNot(way, s);
                case CUT:
                    drop(way, way.markAt(program.levelOf(s)));
                    way.at = program.behind(s);
                    return GOING;
                default:
                    way.setRounds(program.levelOf(s) + 1, program.detailOf(s) - 1);
                    way.enter(s, program.partFirst(s, 0), program.levelOf(s) + 1);
                    return GOING;
            }
        }

        private int assign(Way way, int s) {
            int value = program.formulas.worth(program.formulaOf(s), way.values);
            if (value == NO_VALUE) {
                return endWay();
            }
            way.setValue(program.detailOf(s), value);
            way.at = program.behind(s);
            return GOING;
        }

        private int test(Way way, int s) {
            int first = program.formulaOf(s);
            int left = program.formulas.worth(first, way.values);
            int right = program.formulas.worth(first + 1, way.values);
            if (left == NO_VALUE || right == NO_VALUE || !isSo(left, program.detailOf(s), right)) {
                return endWay();
            }
            way.at = program.behind(s);
            return GOING;
        }

        private static boolean isSo(int left, int sign, int right) {
            switch (sign) {
                case '<':
                    return left < right;
                case '=':
                    return left == right;
                case '>':
                    return left > right;
                default:
                    return left != right;
            }
        }

        private int beginNot(Way way, int s) {
            int within = nest + 1;
            if (within < 1 || within >= ways.length || within >= bases.length) {
                return endWay();
            }
            nest = within;
            bases[within] = inner.size;
            Way first = ways[within];
            first.become(way);
            // The points of a NOT are its own, so its cuts can't reach beyond its begin.
            first.came = 0;
            first.enter(s, program.partFirst(s, 0), program.levelOf(s) + 1);
            return GOING;
        }

        private void drop(Way way, int since) {
            if (nest > 0) {
                inner.drop(way, since);
            } else {
                tally(OF_GONE, points.drop(way, since));
            }
        }

        private int choose(Way way, int s) {
            Points to = nest > 0 ? inner : points;
            Point point = to.spare();
            if (point == null) {
                return endWay();
            }
            int kind = program.kindOf(s);
            if (kind == WAYS) {
                point.choices = program.partsOf(s);
            } else {
                point.choices = kind == UP_TO ? prepareUpTo(point, way, s) : prepareAmong(point, way, s);
            }
            if (point.choices <= 0) {
                return endWay();
            }
            if (nest == 0 && strategy == DEEPER && way.depth >= limit) {
                tooDeep = true;
                return endWay();
            }
            if (to.size >= POINTS_MOST) {
                return finish(CROWDED);
            }
            point.taken = 0;
            point.maker.become(way);
            point.price = program.priceOf(way.values);
            to.size++;
            if (nest == 0) {
                tally(OF_MADE, 1);
                tally(OF_MOST, Math.max(0, points.size - tell(OF_MOST)));
            }
            return endWay();
        }

        /** How many values there are from the first up to the second. */
        private int prepareUpTo(Point point, Way way, int s) {
            int first = program.formulaOf(s);
            int low = program.formulas.worth(first, way.values);
            int high = program.formulas.worth(first + 1, way.values);
            if (low == NO_VALUE || high == NO_VALUE) {
                return 0;
            }
            point.low = low;
            return high - low + 1;
        }

        /** How many values the list has; none if any of its E's isn't one. */
        private int prepareAmong(Point point, Way way, int s) {
            int first = program.formulaOf(s);
            int choices = program.formulaOf(s + 1) - first;
            for (int i = 0; i < choices && i < PARTS_MOST; i++) {
                int value = program.formulas.worth(first + i, way.values);
                if (value == NO_VALUE) {
                    return 0;
                }
                point.among[i] = value;
            }
            return choices;
        }
    }
}
