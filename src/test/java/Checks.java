/** What the tests share: counting wrong answers, feeding texts, ending with the right exit code. */
final class Checks {
    private final String name;
    private int asked = 0;
    private int wrong = 0;

    Checks(String name) {
        this.name = name;
    }

    void due(String call, long got, long want) {
        asked++;
        if (got != want) {
            wrong++;
            if (wrong <= 50) {
                System.out.println(name + ": " + call + " answered " + got + ", due is " + want);
            }
        }
    }

    boolean fine() {
        return wrong == 0;
    }

    void end() {
        System.out.println(name + ": " + asked + " answers, " + wrong + " wrong");
        if (wrong != 0 || asked == 0) {
            System.exit(1);
        }
    }

    /** A new object is best fed by this: each byte must be taken. */
    static void feed(TrailSearch x, String text) {
        for (int i = 0; i < text.length(); i++) {
            if (x.feed(text.charAt(i)) < 1) {
                throw new IllegalStateException("the tape took no byte at " + i + " of " + text);
            }
        }
    }

    static int program(TrailSearch x, int k, String text) {
        feed(x, text);
        return x.program(k);
    }

    static int cost(TrailSearch x, int k, String text) {
        feed(x, text);
        return x.cost(k);
    }

    /** A new object with a search 0 begun of a text. */
    static TrailSearch begun(String text, int strategy) {
        TrailSearch x = new TrailSearch();
        int answered = program(x, 0, text);
        if (answered < 1) {
            throw new IllegalStateException("no program: " + text + " answered " + answered);
        }
        x.begin(0, 0, strategy);
        return x;
    }

    static TrailSearch begun(String text, String cost, int strategy) {
        TrailSearch x = new TrailSearch();
        program(x, 0, text);
        if (cost(x, 0, cost) != 1) {
            throw new IllegalStateException("no cost: " + cost);
        }
        x.begin(0, 0, strategy);
        return x;
    }
}
