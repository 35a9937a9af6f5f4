import java.util.ArrayList;
import java.util.List;

/**
 * The document once more, in another way: ways are chains of things to do, a pause is no state at
 * all but the search gone through anew from its begin with the budgets it got so far, and a NOT
 * is a call that calls itself. It is slow and uses what memory it likes; the tests ask it and the
 * class the same things.
 */
final class Oracle {
    static final int BAD = -2001, NOT = -2002, STATE = -2003;

    // ---------------------------------------------------------------- texts

    static final class Fault extends Exception {
        final int place;

        Fault(int place) {
            super("" + place, null, false, false);
            this.place = place;
        }
    }

    interface E {
        /** A value, or null. */
        Integer of(int[] values);
    }

    private static Integer kept(int number) {
        return number >= -999 && number <= 999 ? Integer.valueOf(number) : null;
    }

    static final class S {
        char kind; // : ? { < = > # ( [ ~ ! *
        int variable;
        int times;
        List<E> es = new ArrayList<>();
        List<List<S>> ps = new ArrayList<>();
    }

    static final class Text {
        final String text;
        int place = 0;
        int statements = 0;
        int open = 0;

        Text(String text) {
            this.text = text;
        }

        char look() {
            return place < text.length() ? text.charAt(place) : 0;
        }

        void need(char c) throws Fault {
            if (look() != c) {
                throw new Fault(place);
            }
            place++;
        }

        boolean has(char c) {
            if (look() == c) {
                place++;
                return true;
            }
            return false;
        }

        List<S> whole() throws Fault {
            List<S> p = p();
            if (place != text.length()) {
                throw new Fault(place);
            }
            return p;
        }

        List<S> p() throws Fault {
            List<S> all = new ArrayList<>();
            do {
                all.add(s());
            } while (has(';'));
            return all;
        }

        void bracket(char c) throws Fault {
            if (look() == c && open == 6) {
                throw new Fault(place);
            }
            need(c);
            open++;
        }

        S s() throws Fault {
            if (statements == 40) {
                throw new Fault(place);
            }
            statements++;
            S s = new S();
            String rest = text.substring(place);
            if (rest.startsWith("(")) {
                s.kind = '(';
                bracket('(');
                do {
                    if (s.ps.size() == 6) {
                        throw new Fault(place - 1);
                    }
                    s.ps.add(p());
                } while (has('|'));
                need(')');
                open--;
            } else if (rest.startsWith("[") || rest.startsWith("~")) {
                s.kind = rest.charAt(0);
                has('~');
                bracket('[');
                s.ps.add(p());
                need(']');
                open--;
            } else if (rest.startsWith("!")) {
                s.kind = '!';
                place++;
            } else if (rest.matches("(?s)[1-9]\\*\\(.*")) {
                s.kind = '*';
                s.times = rest.charAt(0) - '0';
                place += 2;
                bracket('(');
                s.ps.add(p());
                need(')');
                open--;
            } else if (rest.matches("(?s)[a-h]:.*")) {
                s.kind = ':';
                s.variable = rest.charAt(0) - 'a';
                place += 2;
                s.es.add(e());
            } else if (rest.matches("(?s)[a-h]\\?\\{.*")) {
                s.kind = '{';
                s.variable = rest.charAt(0) - 'a';
                place += 3;
                do {
                    if (s.es.size() == 6) {
                        throw new Fault(place - 1);
                    }
                    s.es.add(e());
                } while (has(','));
                need('}');
            } else if (rest.matches("(?s)[a-h]\\?.*")) {
                s.kind = '?';
                s.variable = rest.charAt(0) - 'a';
                place += 2;
                s.es.add(e());
                need(',');
                s.es.add(e());
            } else {
                s.es.add(e());
                s.kind = look();
                if (s.kind == 0 || "<=>#".indexOf(s.kind) < 0) {
                    throw new Fault(place);
                }
                place++;
                s.es.add(e());
            }
            return s;
        }

        E e() throws Fault {
            E sum = t();
            while (look() == '+' || look() == '-') {
                E left = sum;
                int sign = look() == '+' ? 1 : -1;
                place++;
                E right = t();
                sum = values -> {
                    Integer l = left.of(values);
                    Integer r = right.of(values);
                    return l == null || r == null ? null : kept(l + sign * r);
                };
            }
            return sum;
        }

        E t() throws Fault {
            E product = u();
            while (has('*')) {
                E left = product;
                E right = u();
                product = values -> {
                    Integer l = left.of(values);
                    Integer r = right.of(values);
                    return l == null || r == null ? null : kept(l * r);
                };
            }
            return product;
        }

        E u() throws Fault {
            if (has('-')) {
                E plain = u();
                return values -> {
                    Integer v = plain.of(values);
                    return v == null ? null : kept(-v);
                };
            }
            char c = look();
            if (c >= 'a' && c <= 'h') {
                place++;
                return values -> values[c - 'a'];
            }
            int end = place;
            while (end < text.length() && end < place + 3 && text.charAt(end) >= '0' && text.charAt(end) <= '9') {
                end++;
            }
            if (end == place) {
                throw new Fault(place);
            }
            int number = Integer.parseInt(text.substring(place, end));
            place = end;
            return values -> number;
        }
    }

    // ---------------------------------------------------------------- ways

    /** The choice points that a way came through, the last one first. */
    static final class Chain {
        final Cp cp;
        final Chain older;

        Chain(Cp cp, Chain older) {
            this.cp = cp;
            this.older = older;
        }
    }

    /** What a way has still to do. */
    static final class Todo {
        final char kind; // s: S's of a P from one on; r: rounds; o: the end of a ONCE
        final List<S> p;
        final int from;
        final int left;
        final Chain since;
        final Todo then;

        Todo(char kind, List<S> p, int from, int left, Chain since, Todo then) {
            this.kind = kind;
            this.p = p;
            this.from = from;
            this.left = left;
            this.since = since;
            this.then = then;
        }
    }

    static final class Way {
        int[] values = new int[8];
        Todo todo;
        Chain chain;
        int depth;
        int turns;
    }

    static final class Cp {
        int[] values;
        Todo then;
        Chain chain;
        int depth;
        int turns;
        int variable;
        int taken = 0;
        List<Integer> left = new ArrayList<>();
        List<List<S>> ways;
    }

    static final class Event {
        final char kind; // g: go, a: all, t: turn
        final int number;
        int came = 0;

        Event(char kind, int number) {
            this.kind = kind;
            this.number = number;
        }
    }

    static final class Halt extends RuntimeException {
        Halt() {
            super("", null, false, false);
        }
    }

    /** A search gone through from its begin, by what it was told so far. */
    static final class Run {
        final List<S> program;
        final E cost;
        final List<Event> events;
        int strategy;
        int event = -1;
        int budget = 0;

        boolean done = false;
        boolean stands = true;
        int result = 0;
        int steps = 0, most = 0, made = 0, taken = 0, gone = 0, undone = 0, limit = 0;
        boolean failedSo = false;
        List<int[]> answers = new ArrayList<>();
        List<Cp> cps = new ArrayList<>();
        List<List<Cp>> nots = new ArrayList<>();
        int[] lastValues;

        Run(List<S> program, E cost, int strategy, List<Event> events) {
            this.program = program;
            this.cost = cost;
            this.strategy = strategy;
            this.events = events;
            try {
                nextEvent();
                search();
            } catch (Halt halt) {
                // it stands where the last budget left it
            }
        }

        void nextEvent() {
            for (event++; event < events.size() && events.get(event).kind == 't'; event++) {
                strategy = events.get(event).number;
            }
            if (event >= events.size()) {
                throw new Halt();
            }
            budget = events.get(event).number;
            events.get(event).came = 0;
        }

        void step() {
            while (budget == 0) {
                result = 2;
                nextEvent();
            }
            budget--;
            steps++;
        }

        void end(int how) {
            result = how;
            done = true;
            // turns that were told afterwards still change the strategy
            for (event++; event < events.size(); event++) {
                strategy = events.get(event).number;
            }
            throw new Halt();
        }

        int price(int[] values) {
            if (cost == null) {
                return 0;
            }
            Integer price = cost.of(values);
            return price == null ? 999999 : price;
        }

        List<Cp> open() {
            List<Cp> open = new ArrayList<>();
            for (Cp cp : cps) {
                if (!cp.left.isEmpty()) {
                    open.add(cp);
                }
            }
            return open;
        }

        void search() {
            while (true) {
                Way way = new Way();
                way.todo = new Todo('s', program, 0, 0, null, null);
                failedSo = false;
                stands = true;
                follow(way, true);
                while (!open().isEmpty()) {
                    stands = false;
                    step();
                    Cp cp = open().get(chosen());
                    taken++;
                    for (int v = 0; v < 8; v++) {
                        undone += lastValues[v] != cp.values[v] ? 1 : 0;
                    }
                    stands = true;
                    follow(take(cp), true);
                }
                stands = false;
                if (strategy != 5 || !failedSo) {
                    end(3);
                }
                limit++;
            }
        }

        int chosen() {
            List<Cp> open = open();
            int best = 0;
            for (int i = 1; i < open.size(); i++) {
                Cp a = open.get(best);
                Cp b = open.get(i);
                boolean better;
                if (strategy == 1) {
                    better = false;
                } else if (strategy == 2) {
                    better = price(b.values) < price(a.values);
                } else if (strategy == 3) {
                    better = price(b.values) <= price(a.values);
                } else if (strategy == 4) {
                    better = b.turns + Math.min(1, b.taken) <= a.turns + Math.min(1, a.taken);
                } else {
                    better = true;
                }
                best = better ? i : best;
            }
            return best;
        }

        Way take(Cp cp) {
            Way way = new Way();
            way.values = cp.values.clone();
            way.chain = new Chain(cp, cp.chain);
            way.depth = cp.depth + 1;
            way.turns = cp.turns + (cp.taken > 0 ? 1 : 0);
            int choice = cp.left.remove(0);
            cp.taken++;
            if (cp.ways == null) {
                way.values[cp.variable] = choice;
                way.todo = cp.then;
            } else {
                way.todo = new Todo('s', cp.ways.get(choice), 0, 0, way.chain, cp.then);
            }
            return way;
        }

        /** True if the way is through. */
        boolean follow(Way way, boolean outer) {
            boolean through = goThrough(way, outer);
            if (outer) {
                lastValues = way.values;
                if (through && (strategy != 5 || way.depth == limit)) {
                    answered(way);
                }
            }
            return through;
        }

        void answered(Way way) {
            stands = false;
            if (answers.size() == 60) {
                end(5);
            }
            int[] answer = new int[12];
            System.arraycopy(way.values, 0, answer, 0, 8);
            answer[8] = way.depth;
            answer[9] = way.turns;
            answer[10] = price(way.values);
            answer[11] = steps;
            answers.add(answer);
            events.get(event).came++;
            if (events.get(event).kind == 'g') {
                result = 1;
                nextEvent();
            }
        }

        boolean goThrough(Way way, boolean outer) {
            while (way.todo != null) {
                Todo now = way.todo;
                if (now.kind == 'o') {
                    way.todo = now.then;
                    cut(way, now.since, outer);
                } else if (now.kind == 'r') {
                    if (now.left == 0) {
                        way.todo = now.then;
                    } else {
                        step();
                        Todo rest = new Todo('r', now.p, 0, now.left - 1, null, now.then);
                        way.todo = new Todo('s', now.p, 0, 0, way.chain, rest);
                    }
                } else if (now.from == now.p.size()) {
                    way.todo = now.then;
                } else {
                    step();
                    way.todo = new Todo('s', now.p, now.from + 1, 0, now.since, now.then);
                    if (!does(way, now.p.get(now.from), now.since, outer)) {
                        return false;
                    }
                }
            }
            return true;
        }

        void cut(Way way, Chain since, boolean outer) {
            for (Chain c = way.chain; c != since; c = c.older) {
                if (!c.cp.left.isEmpty()) {
                    gone += outer ? 1 : 0;
                    c.cp.left.clear();
                }
            }
        }

        /** False if the way ends by it. */
        boolean does(Way way, S s, Chain since, boolean outer) {
            List<Integer> worths = new ArrayList<>();
            for (E e : s.es) {
                Integer worth = e.of(way.values);
                if (worth == null) {
                    return false;
                }
                worths.add(worth);
            }
            switch (s.kind) {
                case ':':
                    way.values = way.values.clone();
                    way.values[s.variable] = worths.get(0);
                    return true;
                case '<':
                    return worths.get(0) < worths.get(1);
                case '>':
                    return worths.get(0) > worths.get(1);
                case '=':
                    return worths.get(0).intValue() == worths.get(1).intValue();
                case '#':
                    return worths.get(0).intValue() != worths.get(1).intValue();
                case '!':
                    cut(way, since, outer);
                    return true;
                case '[':
                    way.todo = new Todo('o', null, 0, 0, way.chain, way.todo);
                    way.todo = new Todo('s', s.ps.get(0), 0, 0, way.chain, way.todo);
                    return true;
                case '*':
                    way.todo = new Todo('r', s.ps.get(0), 0, s.times - 1, null, way.todo);
                    way.todo = new Todo('s', s.ps.get(0), 0, 0, way.chain, way.todo);
                    return true;
                case '~':
                    return !solves(s.ps.get(0), way.values);
                default:
                    choose(way, s, worths, outer);
                    return false;
            }
        }

        void choose(Way way, S s, List<Integer> worths, boolean outer) {
            Cp cp = new Cp();
            if (s.kind == '{') {
                cp.left.addAll(worths);
            } else if (s.kind == '?') {
                for (int v = worths.get(0); v <= worths.get(1); v++) {
                    cp.left.add(v);
                }
            } else {
                cp.ways = s.ps;
                for (int i = 0; i < s.ps.size(); i++) {
                    cp.left.add(i);
                }
            }
            if (cp.left.isEmpty()) {
                return;
            }
            if (outer && strategy == 5 && way.depth >= limit) {
                failedSo = true;
                return;
            }
            int crowd = 0;
            for (Cp one : outer ? cps : List.<Cp>of()) {
                crowd += one.left.isEmpty() ? 0 : 1;
            }
            for (List<Cp> not : outer ? List.<List<Cp>>of() : nots) {
                for (Cp one : not) {
                    crowd += one.left.isEmpty() ? 0 : 1;
                }
            }
            if (crowd == 30) {
                end(4);
            }
            cp.values = way.values.clone();
            cp.then = way.todo;
            cp.chain = way.chain;
            cp.depth = way.depth;
            cp.turns = way.turns;
            cp.variable = s.variable;
            if (outer) {
                cps.add(cp);
                made++;
                most = Math.max(most, crowd + 1);
            } else {
                nots.get(nots.size() - 1).add(cp);
            }
        }

        boolean solves(List<S> p, int[] values) {
            List<Cp> own = new ArrayList<>();
            nots.add(own);
            Way way = new Way();
            way.values = values.clone();
            way.todo = new Todo('s', p, 0, 0, null, null);
            boolean found = follow(way, false);
            while (!found) {
                Cp youngest = null;
                for (Cp cp : own) {
                    youngest = cp.left.isEmpty() ? youngest : cp;
                }
                if (youngest == null) {
                    break;
                }
                step();
                found = follow(take(youngest), false);
            }
            nots.remove(nots.size() - 1);
            return found;
        }
    }

    // ---------------------------------------------------------------- the face

    static final class Program {
        List<S> statements;
        int size;
        E cost;
    }

    static final class Search {
        List<S> program;
        E cost;
        int strategy;
        List<Event> events = new ArrayList<>();
        Run run;

        Search fork() {
            Search fork = new Search();
            fork.program = program;
            fork.cost = cost;
            fork.strategy = strategy;
            for (Event event : events) {
                fork.events.add(new Event(event.kind, event.number));
            }
            fork.rerun();
            return fork;
        }

        void tell(char kind, int number) {
            events.add(new Event(kind, number));
            rerun();
        }

        void rerun() {
            run = new Run(program, cost, strategy, events);
        }
    }

    private String tape = "";
    private final Program[] programs = new Program[4];
    private final Search[] searches = new Search[4];

    private static boolean no(int k) {
        return k < 0 || k > 3;
    }

    int feed(int letter) {
        if (letter < 1 || letter > 255) {
            return BAD;
        }
        if (tape.length() == 150) {
            return NOT;
        }
        tape += (char) letter;
        return tape.length();
    }

    int program(int k) {
        if (no(k)) {
            return BAD;
        }
        Text text = new Text(tape);
        tape = "";
        try {
            Program program = new Program();
            program.statements = text.whole();
            program.size = text.statements;
            programs[k] = program;
            return program.size;
        } catch (Fault fault) {
            return -100 - fault.place;
        }
    }

    int cost(int k) {
        if (no(k)) {
            return BAD;
        }
        if (programs[k] == null) {
            return STATE;
        }
        Text text = new Text(tape);
        tape = "";
        try {
            E cost = text.e();
            if (text.place != text.text.length()) {
                return -100 - text.place;
            }
            programs[k].cost = cost;
            return 1;
        } catch (Fault fault) {
            return -100 - fault.place;
        }
    }

    int begin(int search, int program, int strategy) {
        if (no(search) || strategy < 0 || strategy > 5) {
            return BAD;
        }
        if (no(program) || programs[program] == null) {
            return STATE;
        }
        Search begun = new Search();
        begun.program = programs[program].statements;
        begun.cost = programs[program].cost;
        begun.strategy = strategy;
        begun.rerun();
        searches[search] = begun;
        return 1;
    }

    int go(int search, int budget) {
        if (no(search) || budget < 1 || budget > 500) {
            return BAD;
        }
        if (searches[search] == null || searches[search].run.done) {
            return STATE;
        }
        searches[search].tell('g', budget);
        return searches[search].run.result;
    }

    int all(int search, int budget) {
        if (no(search) || budget < 1 || budget > 2000) {
            return BAD;
        }
        Search gone = searches[search];
        if (gone == null || gone.run.done) {
            return STATE;
        }
        gone.tell('a', budget);
        return gone.events.get(gone.events.size() - 1).came;
    }

    int of(int search, int what) {
        if (no(search) || what < 0 || what > 9) {
            return BAD;
        }
        if (searches[search] == null) {
            return what == 0 ? 0 : STATE;
        }
        Run run = searches[search].run;
        if (what == 9 && run.strategy != 5) {
            return NOT;
        }
        int[] all = {run.done ? 2 : 1, run.answers.size(), run.steps, run.open().size(), run.most,
            run.made, run.taken, run.gone, run.undone, run.limit};
        return all[what];
    }

    int answer(int search, int i, int what) {
        if (no(search) || i < 0 || what < 0 || what > 11) {
            return BAD;
        }
        if (searches[search] == null) {
            return STATE;
        }
        List<int[]> answers = searches[search].run.answers;
        return i < answers.size() ? answers.get(i)[what] : NOT;
    }

    int open(int search, int i, int what) {
        if (no(search) || i < 0 || what < 0 || what > 11) {
            return BAD;
        }
        if (searches[search] == null) {
            return STATE;
        }
        List<Cp> open = searches[search].run.open();
        if (i >= open.size()) {
            return NOT;
        }
        Cp cp = open.get(i);
        switch (what) {
            case 0:
                return cp.depth;
            case 1:
                return cp.turns;
            case 2:
                return searches[search].run.price(cp.values);
            case 3:
                return cp.left.size();
            default:
                return cp.values[what - 4];
        }
    }

    int next(int search) {
        if (no(search)) {
            return BAD;
        }
        if (searches[search] == null) {
            return STATE;
        }
        Run run = searches[search].run;
        return run.done || run.stands || run.open().isEmpty() ? NOT : run.chosen();
    }

    int ordered(int search, int i) {
        if (no(search) || i < 0) {
            return BAD;
        }
        if (searches[search] == null) {
            return STATE;
        }
        List<int[]> answers = searches[search].run.answers;
        if (i >= answers.size()) {
            return NOT;
        }
        List<Integer> order = new ArrayList<>();
        for (int k = 0; k < answers.size(); k++) {
            order.add(k);
        }
        order.sort((x, y) -> Integer.compare(answers.get(x)[10], answers.get(y)[10]));
        return order.get(i);
    }

    private static String key(int[] answer) {
        return java.util.Arrays.toString(java.util.Arrays.copyOf(answer, 8));
    }

    private static java.util.Set<String> keys(List<int[]> answers) {
        java.util.Set<String> keys = new java.util.HashSet<>();
        for (int[] answer : answers) {
            keys.add(key(answer));
        }
        return keys;
    }

    int common(int a, int b) {
        if (no(a) || no(b)) {
            return BAD;
        }
        if (searches[a] == null || searches[b] == null) {
            return STATE;
        }
        java.util.Set<String> others = keys(searches[b].run.answers);
        int found = 0;
        for (int[] answer : searches[a].run.answers) {
            found += others.contains(key(answer)) ? 1 : 0;
        }
        return found;
    }

    int unlike(int search) {
        if (no(search)) {
            return BAD;
        }
        return searches[search] == null ? STATE : keys(searches[search].run.answers).size();
    }

    int turn(int search, int strategy) {
        if (no(search) || strategy < 0 || strategy > 4) {
            return BAD;
        }
        if (searches[search] == null || searches[search].run.strategy == 5) {
            return STATE;
        }
        int before = searches[search].run.strategy;
        searches[search].tell('t', strategy);
        return before;
    }

    int copy(int from, int to) {
        if (no(from) || no(to)) {
            return BAD;
        }
        if (searches[from] == null) {
            return STATE;
        }
        searches[to] = searches[from].fork();
        return searches[to].run.answers.size();
    }

    int would(int search, int budget, int what) {
        if (no(search) || budget < 1 || budget > 500 || what < 0 || what > 2) {
            return BAD;
        }
        if (searches[search] == null) {
            return STATE;
        }
        Search thought = searches[search].fork();
        if (!thought.run.done) {
            thought.tell('a', budget);
        }
        Run run = thought.run;
        return what == 0 ? run.answers.size() : what == 1 ? (run.done ? 1 : 0) : run.steps;
    }

    int count(int what) {
        int programsThere = 0;
        int undone = 0;
        int answers = 0;
        for (int k = 0; k < 4; k++) {
            programsThere += programs[k] != null ? 1 : 0;
            undone += searches[k] != null && !searches[k].run.done ? 1 : 0;
            answers += searches[k] != null ? searches[k].run.answers.size() : 0;
        }
        switch (what) {
            case 0:
                return programsThere;
            case 1:
                return tape.length();
            case 2:
                return undone;
            case 3:
                return answers;
            default:
                return BAD;
        }
    }
}
