import java.util.Random;

/** Asks the class and the oracle the same things, chosen by chance from fixed seeds. */
public final class OracleTest {
    private final Checks checks;
    private final Random random;
    private final int run;
    private final TrailSearch x = new TrailSearch();
    private final Oracle oracle = new Oracle();
    private final boolean odd;
    private int calls = 0;

    private OracleTest(Checks checks, int run) {
        this.checks = checks;
        this.run = run;
        this.random = new Random(run);
        this.odd = run % 3 == 0;
    }

    public static void main(String[] args) {
        int from = args.length > 0 ? Integer.parseInt(args[0]) : 0;
        int runs = args.length > 1 ? Integer.parseInt(args[1]) : 20000;
        Checks checks = new Checks("OracleTest");
        for (int run = from; run < from + runs; run++) {
            new OracleTest(checks, run).play();
        }
        checks.end();
    }

    private void play() {
        begin(0);
        while (calls < 480 && checks.fine()) {
            call();
        }
    }

    private void due(String call, int got, int want) {
        calls++;
        if (calls > Told.CALLS_MOST) {
            throw new IllegalStateException("too many calls on one object in run " + run);
        }
        checks.due("run " + run + ", call " + calls + ": " + call, got, want);
    }

    /** Mostly a number of one, now and then any. */
    private int one(int most) {
        return random.nextInt(40) == 0 ? random.nextInt(most + 6) - 3 : random.nextInt(most + 1);
    }

    private void feed(String text) {
        for (int i = 0; i < text.length(); i++) {
            due("feed(" + (int) text.charAt(i) + ")", x.feed(text.charAt(i)), oracle.feed(text.charAt(i)));
        }
    }

    private void begin(int search) {
        int k = random.nextInt(4);
        String text = new Texts(random).program();
        String cost = new Texts(random).cost();
        if (calls + text.length() + cost.length() > 450) {
            return;
        }
        feed(text);
        due("program(" + k + ") " + text, x.program(k), oracle.program(k));
        if (random.nextBoolean()) {
            feed(cost);
            due("cost(" + k + ") " + cost, x.cost(k), oracle.cost(k));
        }
        int strategy = random.nextInt(6);
        due("begin(" + search + ", " + k + ", " + strategy + ") " + text,
            x.begin(search, k, strategy), oracle.begin(search, k, strategy));
    }

    private void call() {
        int s = one(3);
        switch (random.nextInt(30)) {
            case 0:
                begin(random.nextInt(4));
                break;
            case 1:
                int k = one(3);
                int by = one(5);
                due("begin(" + s + ", " + k + ", " + by + ")", x.begin(s, k, by), oracle.begin(s, k, by));
                break;
            case 2: case 3: case 4: case 5: case 6: case 7:
                int few = one(random.nextInt(4) == 0 ? 500 : 12);
                due("go(" + s + ", " + few + ")", x.go(s, few), oracle.go(s, few));
                stand(s);
                break;
            case 8: case 9:
                int many = one(random.nextInt(3) == 0 ? 2000 : 40);
                due("all(" + s + ", " + many + ")", x.all(s, many), oracle.all(s, many));
                stand(s);
                break;
            case 10:
                int to = one(4);
                due("turn(" + s + ", " + to + ")", x.turn(s, to), oracle.turn(s, to));
                break;
            case 11:
                int other = one(3);
                due("copy(" + s + ", " + other + ")", x.copy(s, other), oracle.copy(s, other));
                break;
            case 12: case 13:
                int budget = one(random.nextInt(3) == 0 ? 500 : 30);
                int how = one(2);
                due("would(" + s + ", " + budget + ", " + how + ")", x.would(s, budget, how), oracle.would(s, budget, how));
                break;
            case 14:
                int b = one(3);
                due("common(" + s + ", " + b + ")", x.common(s, b), oracle.common(s, b));
                break;
            case 15:
                due("unlike(" + s + ")", x.unlike(s), oracle.unlike(s));
                break;
            case 16:
                int c = one(3);
                due("count(" + c + ")", x.count(c), oracle.count(c));
                break;
            case 17: case 18:
                int place = one(random.nextInt(3) == 0 ? 60 : 4);
                due("ordered(" + s + ", " + place + ")", x.ordered(s, place), oracle.ordered(s, place));
                break;
            case 19: case 20: case 21:
                int a = one(random.nextInt(3) == 0 ? 60 : 4);
                int field = one(11);
                due("answer(" + s + ", " + a + ", " + field + ")", x.answer(s, a, field), oracle.answer(s, a, field));
                break;
            case 22: case 23: case 24:
                int i = one(random.nextInt(3) == 0 ? 30 : 4);
                int what = one(11);
                due("open(" + s + ", " + i + ", " + what + ")", x.open(s, i, what), oracle.open(s, i, what));
                break;
            case 25:
                int letter = odd ? random.nextInt(300) - 20 : 'a' + random.nextInt(9);
                due("feed(" + letter + ")", x.feed(letter), oracle.feed(letter));
                if (random.nextBoolean()) {
                    due("program(" + s + ")", x.program(s), oracle.program(s));
                } else {
                    due("cost(" + s + ")", x.cost(s), oracle.cost(s));
                }
                break;
            default:
                int asked = one(9);
                due("of(" + s + ", " + asked + ")", x.of(s, asked), oracle.of(s, asked));
                due("next(" + s + ")", x.next(s), oracle.next(s));
        }
    }

    /** How a search stands is looked at often: what goes wrong is told where it went so. */
    private void stand(int s) {
        for (int what = 0; what <= 9; what++) {
            if (random.nextInt(3) == 0) {
                due("of(" + s + ", " + what + ")", x.of(s, what), oracle.of(s, what));
            }
        }
        due("next(" + s + ")", x.next(s), oracle.next(s));
    }
}
