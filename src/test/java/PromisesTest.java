import java.util.function.Supplier;

/** Each promise by runs that were worked out by hand: ordinary inputs, edges, wrong inputs. */
public final class PromisesTest {
    private static final int BAD = -2001, NOT = -2002, STATE = -2003;
    private static final int ANSWERED = 1, PAUSED = 2, DONE = 3, CROWDED = 4, FILLED = 5;
    private static final String FORTY = "!;".repeat(39) + "!";

    private static final Checks c = new Checks("PromisesTest");

    public static void main(String[] args) {
        newObject();
        feed();
        program();
        programFaults();
        cost();
        begin();
        beginAnew();
        manyPrograms();
        go();
        goStepsOfEachKind();
        goValues();
        goCuts();
        goOnce();
        goNot();
        goNotPauses();
        goCrowded();
        goFilled();
        goStrategies();
        goDeeper();
        all();
        of();
        undone();
        answer();
        open();
        next();
        ordered();
        common();
        unlike();
        turn();
        copy();
        would();
        count();
        c.end();
    }

    private static void newObject() {
        TrailSearch x = new TrailSearch();
        for (int k = 0; k < 4; k++) {
            c.due("new: count", x.count(k), 0);
            c.due("new: of", x.of(k, 0), 0);
            c.due("new: cost", x.cost(k), STATE);
            c.due("new: begin", x.begin(0, k, 0), STATE);
        }
        Checks.program(x, 0, "a:1");
        c.due("two objects share nothing", new TrailSearch().begin(0, 0, 0), STATE);
    }

    private static void feed() {
        TrailSearch x = new TrailSearch();
        c.due("feed 0", x.feed(0), BAD);
        c.due("feed -1", x.feed(-1), BAD);
        c.due("feed 256", x.feed(256), BAD);
        c.due("feed most", x.feed(Integer.MAX_VALUE), BAD);
        c.due("feed least", x.feed(Integer.MIN_VALUE), BAD);
        c.due("refused bytes don't come", x.count(1), 0);
        c.due("feed 1", x.feed(1), 1);
        c.due("feed 255", x.feed(255), 2);
        for (int i = 3; i <= 150; i++) {
            c.due("feed on", x.feed('a'), i);
        }
        c.due("feed a 151st", x.feed('a'), NOT);
        c.due("feed none to a full tape", x.feed(0), BAD);
        c.due("the tape is as it was", x.count(1), 150);
        c.due("its first byte is the fault", x.program(0), -100);
        c.due("then it is empty", x.count(1), 0);
        c.due("feed again", x.feed(98), 1);
    }

    private static void program() {
        TrailSearch x = new TrailSearch();
        Checks.feed(x, "a:1");
        c.due("program -1", x.program(-1), BAD);
        c.due("program 4", x.program(4), BAD);
        c.due("the tape stays by BAD", x.count(1), 3);
        c.due("program 3", x.program(3), 1);
        c.due("the tape is empty then", x.count(1), 0);
        c.due("one program", x.count(0), 1);
        c.due("a fault", Checks.program(x, 3, "b:"), -102);
        c.due("the tape is empty by a fault", x.count(1), 0);
        c.due("begun of what it was", x.begin(0, 3, 0), 1);
        c.due("another one there", Checks.program(x, 3, "b:2;c:3"), 2);
        c.due("still one program", x.count(0), 1);
        c.due("the search goes on by what it was", x.go(0, 10), ANSWERED);
        c.due("a", x.answer(0, 0, 0), 1);
        c.due("b", x.answer(0, 0, 1), 0);
        c.due("a cost", Checks.cost(x, 3, "7"), 1);
        x.begin(1, 3, 0);
        c.due("a fault again", Checks.program(x, 3, "("), -101);
        x.begin(2, 3, 0);
        x.go(2, 10);
        c.due("by a fault the cost stays, too", x.answer(2, 0, 10), 7);
        c.due("the same text again", Checks.program(x, 3, "b:2;c:3"), 2);
        x.begin(3, 3, 0);
        x.go(3, 10);
        c.due("a new program has no cost", x.answer(3, 0, 10), 0);
        x.go(1, 10);
        c.due("a search keeps the cost of then", x.answer(1, 0, 10), 7);
    }

    private static void reads(String text, int due) {
        c.due("program " + text, Checks.program(new TrailSearch(), 0, text), due);
    }

    private static void programFaults() {
        String[] whole = {"a:1", "h:007", "a:--1", "a:a+b*c-2*-3", "a?b,c", "a?{1}", "a?{1,2,3,4,5,6}",
            "1=1", "a#b", "-a<b", "2*a=4", "9>a", "22*2=44", "!"};
        for (String text : whole) {
            reads(text, 1);
        }
        reads("a:1;b:2", 2);
        reads("[a:1]", 2);
        reads("~[a:1;b:2]", 3);
        reads("9*(a:1)", 2);
        reads("(a:1)", 2);
        reads("(a:1|a:2|a:3|a:4|a:5|a:6)", 7);
        reads("((((((!))))))", 7);
        reads("[~[2*(([(!)]))]]", 7);
        reads("(!);(!);(!);(!);(!);(!);(!)", 14);
        reads("-".repeat(147) + "1=1", 1);
        reads("[[[[[[!;a:1;b?1,2]]]]];!];!", 11);
        reads(FORTY, 40);
        reads("!;".repeat(38) + "(!)", 40);
        // the size: it ends too early
        String[] early = {"", "a", "a:", "a:-", "a:1;", "a?", "a?1", "a?1,", "a?{", "a?{1", "a?{1,", "1", "1+", "1<",
            "2*", "(", "(!", "(!|", "[", "[!", "~", "~[", "~[!", "2*(", "2*(!"};
        for (String text : early) {
            reads(text, -100 - text.length());
        }
        // the first byte with which no program goes on
        reads("i:1", -100);
        reads("A:1", -100);
        reads("+1=1", -100);
        reads(";", -100);
        reads("a:1 ", -103);
        reads(" a:1", -100);
        reads("a:i", -102);
        reads("a:1000", -105);
        reads("a:+1", -102);
        reads("a:1,", -103);
        reads("a;", -101);
        reads("a!", -101);
        reads("a?1;", -103);
        reads("a?1,;", -104);
        reads("a?{}", -103);
        reads("a?{1,}", -105);
        reads("a?{1;2}", -104);
        reads("a<b<c", -103);
        reads("1!", -101);
        reads("1;", -101);
        reads("0*(!)", -102);
        reads("22*(!)", -103);
        reads("a*(!)", -102);
        reads("-2*(!)", -103);
        reads("2*?", -102);
        reads("()", -101);
        reads("[]", -101);
        reads("(!;)", -103);
        reads("~(!)", -101);
        reads("~!", -101);
        reads("!!", -101);
        reads("!)", -101);
        reads("!]", -101);
        reads("!|!", -101);
        reads("(!]", -102);
        reads("[!)", -102);
        reads("[!|!]", -102);
        reads("~[!|!]", -103);
        reads("2*(!|!)", -104);
        reads("\u00ff", -100);
        reads("a\u0001", -101);
        // what would be a seventh E or P: its sign
        reads("a?{1,2,3,4,5,6,7}", -114);
        reads("(!|!|!|!|!|!|!)", -112);
        // a bracket while six are open
        reads("(((((((!)))))))", -106);
        reads("[[[[[[[!]]]]]]]", -106);
        reads("((((((~[!]))))))", -107);
        reads("((((((~!))))))", -107);
        reads("((((((2*(!)))))))", -108);
        reads("2*(2*(2*([[[(", -112);
        // the place of a 41st S
        reads(FORTY + ";!", -180);
        reads(FORTY + ";", -180);
        reads(FORTY + ";2*(!)", -180);
        reads(FORTY + "!", -179);
        reads("!;".repeat(39) + "(!)", -179);
        reads("!;".repeat(39) + "~[!]", -180);
    }

    private static void cost() {
        TrailSearch x = new TrailSearch();
        Checks.feed(x, "a+b");
        c.due("cost -1", x.cost(-1), BAD);
        c.due("cost 4", x.cost(4), BAD);
        c.due("cost of no program", x.cost(2), STATE);
        c.due("the tape stays by these", x.count(1), 3);
        c.due("no program by it", x.program(2), -103);
        Checks.program(x, 2, "a:3");
        c.due("cost", Checks.cost(x, 2, "a*2+b"), 1);
        c.due("the tape is empty then", x.count(1), 0);
        c.due("cost of nothing", Checks.cost(x, 2, ""), -100);
        c.due("cost too early", Checks.cost(x, 2, "a+"), -102);
        c.due("cost of a test", Checks.cost(x, 2, "a<b"), -101);
        c.due("cost of an assigning", Checks.cost(x, 2, "a:1"), -101);
        c.due("cost of four digits", Checks.cost(x, 2, "1000"), -103);
        c.due("cost of times", Checks.cost(x, 2, "2*(a:1)"), -102);
        c.due("the tape is empty by a fault", x.count(1), 0);
        x.begin(0, 2, 0);
        c.due("another cost", Checks.cost(x, 2, "-a"), 1);
        x.begin(1, 2, 0);
        x.go(0, 9);
        x.go(1, 9);
        c.due("the cost of then", x.answer(0, 0, 10), 6);
        c.due("the cost of now", x.answer(1, 0, 10), -3);
        c.due("a cost of 150 bytes", Checks.cost(x, 2, "-".repeat(149) + "a"), 1);
    }

    private static void begin() {
        TrailSearch x = new TrailSearch();
        Checks.program(x, 1, "a?1,2");
        c.due("begin -1", x.begin(-1, 1, 0), BAD);
        c.due("begin 4", x.begin(4, 1, 0), BAD);
        c.due("begin by -1", x.begin(0, 1, -1), BAD);
        c.due("begin by 6", x.begin(0, 1, 6), BAD);
        c.due("begin by 6 of none", x.begin(0, 0, 6), BAD);
        c.due("begin of none", x.begin(0, 0, 0), STATE);
        c.due("begin of -1", x.begin(0, -1, 0), STATE);
        c.due("begin of 4", x.begin(0, 4, 0), STATE);
        c.due("nothing is begun", x.of(0, 0), 0);
        for (int strategy = 0; strategy <= 5; strategy++) {
            c.due("begin", x.begin(3, 1, strategy), 1);
        }
        x.begin(3, 1, 1);
        c.due("all", x.all(3, 99), 2);
        c.due("begin anew", x.begin(3, 1, 0), 1);
        for (int what = 2; what <= 8; what++) {
            c.due("begun anew: of " + what, x.of(3, what), 0);
        }
        c.due("begun anew: answers", x.of(3, 1), 0);
        c.due("begun anew: stands", x.of(3, 0), 1);
        c.due("begun anew: all", x.all(3, 99), 2);
        c.due("a refusal changes nothing", x.begin(3, 0, 0), STATE);
        c.due("it is as it was", x.of(3, 1), 2);
    }

    private static final String[] USUAL = {"a?1,2;b?1,3;(c:1|c:2;!|c:3);!", "a?1,3;[b?1,2;(c:1|c:2)];d?{1,a,b}",
        "(a?1,2|b?1,2;c?1,2);d?1,2;!;h:a+b", "~[3*(8*(a?0,1));a=2;b?1,1]", "2*(a?1,2;b:b*3+a);~[c?1,b;c=b-2;!]",
        "a?1,2;~[~[b?1,3;b=a;!];c?1,2];(!|d:1)", "4*(7*(a?1,2))"};

    /** What stands after other uses must be as if the object were new. */
    private static void beginAnew() {
        for (int i = 0; i < USUAL.length * USUAL.length * 6; i++) {
            int run = i;
            String before = USUAL[i % USUAL.length];
            String text = USUAL[i / USUAL.length % USUAL.length];
            int strategy = i / USUAL.length / USUAL.length;
            alike("anew, " + before + " before " + text + " by " + strategy, () -> {
                TrailSearch used = Checks.begun(before, "a+b", run % 6);
                used.go(0, 3 + run % 40);
                used.all(0, 5 + run % 50);
                Checks.program(used, 0, text);
                used.begin(0, 0, strategy);
                used.all(0, 300);
                return used;
            }, 0, () -> {
                TrailSearch fresh = Checks.begun(text, strategy);
                fresh.all(0, 300);
                return fresh;
            }, 0);
        }
    }

    /**
     * Whether two searches tell the same of themselves. Their objects are made anew for each part
     * of the questions, for an object is used for 512 calls at most.
     */
    private static void alike(String what, Supplier<TrailSearch> one, int a, Supplier<TrailSearch> other, int b) {
        TrailSearch x = one.get();
        TrailSearch y = other.get();
        for (int of = 0; of <= 9; of++) {
            c.due(what + ": of " + of, x.of(a, of), y.of(b, of));
        }
        c.due(what + ": next", x.next(a), y.next(b));
        for (int i = 0; i < 61; i++) {
            if (i % 10 == 0) {
                x = one.get();
                y = other.get();
            }
            for (int field = 0; field < 12; field++) {
                c.due(what + ": answer " + i, x.answer(a, i, field), y.answer(b, i, field));
                c.due(what + ": open " + i, x.open(a, i, field), y.open(b, i, field));
            }
        }
    }

    /** Nothing of a text may stay in the way of later ones. */
    private static void manyPrograms() {
        String text = "a:1+1+1+1+1+1+1+1+1+1;b:a*2-a-a+h;c?1,1;(d:3|e:4|f:5)";
        String spoilt = "a:1+2*3;b?{1,2,3};(((!|a<b*c;[";
        for (int texts = 0; texts <= 6; texts++) {
            TrailSearch x = new TrailSearch();
            for (int i = 0; i < texts; i++) {
                Checks.feed(x, i % 2 == 0 ? text : spoilt);
                x.program(0);
                Checks.cost(x, 0, i % 2 == 0 ? "a+b+c+d*e+f-g-h" : "a-b*(c");
            }
            c.due("program after " + texts, Checks.program(x, 1, text), 7);
            c.due("cost after " + texts, Checks.cost(x, 1, "a+e*2-f"), 1);
            x.begin(0, 1, 0);
            c.due("all after " + texts, x.all(0, 99), 3);
            c.due("a", x.answer(0, 1, 0), 10);
            c.due("b", x.answer(0, 1, 1), 0);
            c.due("its cost", x.answer(0, 1, 10), 18);
            c.due("cost of the third", x.answer(0, 2, 10), 5);
        }
    }

    private static void go() {
        TrailSearch x = Checks.begun("a?1,2;b:a", 0);
        c.due("go -1", x.go(-1, 1), BAD);
        c.due("go 4", x.go(4, 1), BAD);
        c.due("go by 0", x.go(0, 0), BAD);
        c.due("go by 501", x.go(0, 501), BAD);
        c.due("go none by 0", x.go(1, 0), BAD);
        c.due("go none", x.go(1, 1), STATE);
        c.due("go by 1", x.go(0, 1), PAUSED);
        c.due("go by 1: taken", x.go(0, 1), PAUSED);
        c.due("go by 1: assigned, and that's all", x.go(0, 1), ANSWERED);
        c.due("steps", x.of(0, 2), 3);
        c.due("go by 500", x.go(0, 500), ANSWERED);
        c.due("steps then", x.of(0, 2), 5);
        c.due("it isn't done before it is gone on with", x.of(0, 0), 1);
        c.due("go: nothing is open", x.go(0, 1), DONE);
        c.due("no step by that", x.of(0, 2), 5);
        c.due("go: it is done", x.go(0, 1), STATE);
        c.due("a way that fails with the last of the budget", Checks.begun("1=2", 0).go(0, 1), DONE);
        x = Checks.begun("a:1;1=2", 0);
        c.due("a step would come", x.go(0, 1), PAUSED);
        c.due("it stands there", x.go(0, 1), DONE);
    }

    private static TrailSearch run(String text, int strategy, int answers, int steps) {
        TrailSearch x = Checks.begun(text, strategy);
        c.due(text + " by " + strategy + ": answers", x.all(0, 2000), answers);
        c.due(text + " by " + strategy + ": done", x.of(0, 0), 2);
        c.due(text + " by " + strategy + ": steps", x.of(0, 2), steps);
        return x;
    }

    private static void goStepsOfEachKind() {
        run("a:1", 0, 1, 1);
        run("1<2", 0, 1, 1);
        run("!", 0, 1, 1);
        run("a?1,2", 0, 2, 3);
        run("a?{4,4,4}", 0, 3, 4);
        run("(a:1|a:2;b:1)", 0, 2, 6);
        run("[a:1]", 0, 1, 2);
        run("~[a:1]", 0, 0, 2);
        run("~[a=1]", 0, 1, 2);
        TrailSearch x = run("3*(a:a+1)", 0, 1, 6);
        c.due("times", x.answer(0, 0, 0), 3);
        x = run("2*(3*(a:a+1));b:a", 0, 1, 15);
        c.due("times in times", x.answer(0, 0, 1), 6);
        x = run("1*(a:a+1)", 0, 1, 2);
        c.due("once round", x.answer(0, 0, 0), 1);
        x = run("9*(a:a+1;a<4)", 0, 0, 12);
        x = Checks.begun("2*(a:a+1)", 0);
        c.due("before a further round", x.go(0, 2), PAUSED);
        c.due("it stands", x.next(0), NOT);
        c.due("the round", x.go(0, 1), PAUSED);
        c.due("its S", x.go(0, 1), ANSWERED);
        x = run("2*(a?1,2;b:b*3+a)", 0, 4, 18);
        c.due("rounds go on from each choice", x.answer(0, 3, 1), 8);
        c.due("rounds go on from each choice", x.answer(0, 2, 1), 7);
    }

    private static void fails(String text) {
        c.due(text, Checks.begun(text, 0).go(0, 500), DONE);
    }

    private static void goValues() {
        TrailSearch x = run("a:999;b:-a;c:2-3-4;d:2*3+4*5;e:--a-1;f:0*999*999;g:007;h:-2*-3", 0, 1, 8);
        int[] due = {999, -999, -5, 26, 998, 0, 7, 6};
        for (int v = 0; v < 8; v++) {
            c.due("variable " + v, x.answer(0, 0, v), due[v]);
        }
        fails("a:999+1");
        fails("a:999+1-1");
        fails("a:-999-1");
        fails("a:500*2*0");
        fails("a:0-500*2+999");
        fails("a:999;a=a+1");
        fails("a:999;a+1>a");
        fails("a:999;b?1,a+1");
        fails("a:999;b?a+1,a");
        fails("a:999;b?{1,a+1}");
        fails("a?3,2");
        fails("1>1");
        fails("1<1");
        fails("1=2");
        fails("1#1");
        c.due("no choice point of no values", run("a?3,2", 0, 0, 1).of(0, 5), 0);
        x = Checks.begun("a?-999,999;a>997", 0);
        c.due("a long range", x.all(0, 2000), 0);
        c.due("its end", x.all(0, 1999), 2);
        c.due("its end: done", x.of(0, 0), 2);
        c.due("its steps", x.of(0, 2), 1 + 2 * 1999);
    }

    private static void goCuts() {
        TrailSearch x = run("a?1,3;a>1;!;b?1,2", 0, 2, 9);
        c.due("a cut of the program", x.of(0, 7), 1);
        c.due("a is cut", x.answer(0, 1, 0), 2);
        run("(a:1;!|a:2)", 0, 2, 6);
        run("(a:1|a:2);!", 0, 1, 4);
        x = run("(a?1,2;!|a:3)", 0, 2, 7);
        c.due("a cut of a P", x.of(0, 7), 1);
        x = run("2*(!;a?1,2)", 0, 4, 15);
        c.due("a cut of a round", x.of(0, 7), 0);
        run("a?1,2;[!;b?1,2;!]", 0, 2, 13);
        x = run("a?1,3;b?1,2;!", 1, 3, 13);
        c.due("oldest first, a with nothing left", x.of(0, 7), 3);
        x = run("a?1,2;b?1,2;c?1,2;!", 1, 4, 21);
        c.due("oldest first: c four times", x.of(0, 7), 4);
        x = run("a?1,2;b?1,2;!", 4, 1, 5);
        c.due("least turns: both", x.of(0, 7), 2);
        x = run("[[[[[[a?1,2;b:a;!];c?1,2;!];!;d?1,3];e?1,2];f:1];g:b]", 0, 1, 20);
        c.due("six brackets", x.answer(0, 0, 6), 1);
        c.due("six brackets: gone", x.of(0, 7), 4);
        x = run("2*(2*(2*(2*(2*(2*(a:a+1))))))", 0, 1, 190);
        c.due("rounds in six brackets", x.answer(0, 0, 0), 64);
        x = run("a?1,2;b?1,2;!", 1, 2, 9);
        c.due("oldest first: each cuts its own", x.answer(0, 1, 0), 2);
        c.due("oldest first: two went", x.of(0, 7), 2);
        x = run("a?1,3;b?1,2;c?1,2;!", 0, 1, 7);
        c.due("all three went", x.of(0, 7), 3);
        c.due("nothing is open", x.of(0, 3), 0);
        x = run("a?1,1;b?1,2;!", 0, 1, 5);
        c.due("one with nothing left doesn't go", x.of(0, 7), 1);
    }

    private static void goOnce() {
        TrailSearch x = run("[a?1,3;a>1];b?1,2", 0, 2, 9);
        c.due("once", x.answer(0, 1, 0), 2);
        c.due("one went", x.of(0, 7), 1);
        x = run("a?1,2;[b?1,2]", 0, 2, 9);
        c.due("once doesn't reach before its begin", x.answer(0, 1, 0), 2);
        x = run("[(a:1|a:2)]", 0, 1, 4);
        x = run("2*([a?1,2];b:b*3+a)", 0, 1, 10);
        c.due("once in rounds", x.of(0, 7), 2);
        run("[a?1,2;a=3]", 0, 0, 6);
    }

    private static void goNot() {
        TrailSearch x = run("~[a:1;a=2];b:a+1", 0, 1, 4);
        c.due("values as they were", x.answer(0, 0, 0), 0);
        c.due("b", x.answer(0, 0, 1), 1);
        x = run("a?1,3;~[b?1,3;b=a+1]", 0, 1, 26);
        c.due("only 3", x.answer(0, 0, 0), 3);
        c.due("b as it was", x.answer(0, 0, 1), 0);
        c.due("depth", x.answer(0, 0, 8), 1);
        c.due("made", x.of(0, 5), 1);
        c.due("taken", x.of(0, 6), 3);
        c.due("most", x.of(0, 4), 1);
        run("~[a?1,3;a=2]", 0, 0, 6);
        x = run("~[a?1,3;!;a=2]", 0, 1, 5);
        c.due("gone in a not", x.of(0, 7), 0);
        run("a?1,2;~[!;a=1]", 0, 1, 9);
        x = run("~[[a?1,3];a=2]", 0, 1, 5);
        c.due("gone by once in a not", x.of(0, 7), 0);
        run("~[~[a=0]]", 0, 1, 3);
        run("~[~[a=1]]", 0, 0, 3);
        run("~[a?1,2;~[b?1,2;b>a]]", 0, 0, 16);
        run("~[(a=1|a=2)]", 0, 1, 6);
        run("~[3*(a:a+1);a=3]", 0, 0, 8);
        x = run("a?1,2;[b:1];~[c?1,2;!;c=2]", 0, 2, 17);
        c.due("a cut in a not behind a once", x.answer(0, 1, 0), 2);
        run("a?1,1;2*(~[b?1,2;(!|c:1);b=2])", 0, 0, 18);
        for (int strategy = 0; strategy <= 4; strategy++) {
            run("~[a?1,3;b?1,3;a*b=2]", strategy, 0, 8);
        }
        run("~[a?1,3;b?1,3;a*b=2]", 5, 0, 8);
        run("~[a?1,3;a=4]", 5, 1, 8);
    }

    private static void goNotPauses() {
        TrailSearch parts = Checks.begun("a?1,3;~[b?1,3;b=a+1]", 0);
        for (int step = 1; step < 26; step++) {
            c.due("step " + step, parts.go(0, 1), PAUSED);
            c.due("open then", parts.of(0, 3), step < 18 ? 1 : 0);
            // a?, then a = 1: taken, not, b?, two takings and tests; a = 2: one of each more
            boolean taking = step == 1 || step == 8 || step == 17;
            c.due("next at " + step, parts.next(0), taking ? 0 : NOT);
        }
        c.due("the last step", parts.go(0, 1), ANSWERED);
        alike("in parts", () -> {
            TrailSearch x = Checks.begun("a?1,3;~[b?1,3;b=a+1]", 0);
            for (int step = 1; step <= 26; step++) {
                x.go(0, 1);
            }
            return x;
        }, 0, () -> {
            TrailSearch x = Checks.begun("a?1,3;~[b?1,3;b=a+1]", 0);
            c.due("all at once", x.go(0, 500), ANSWERED);
            return x;
        }, 0);
    }

    private static void goCrowded() {
        String many = "4*(8*(a?0,1))";
        TrailSearch x = Checks.begun(many, 0);
        c.due("31 open ones", x.go(0, 500), CROWDED);
        c.due("the S is a step", x.of(0, 2), 96);
        c.due("done", x.of(0, 0), 2);
        c.due("go then", x.go(0, 1), STATE);
        c.due("open", x.of(0, 3), 30);
        c.due("most", x.of(0, 4), 30);
        c.due("made", x.of(0, 5), 30);
        c.due("taken", x.of(0, 6), 30);
        c.due("next", x.next(0), NOT);
        c.due("the 30th open one", x.open(0, 29, 0), 29);
        x = Checks.begun("a?1,2;~[4*(8*(a?0,1))]", 0);
        c.due("31 in a not", x.go(0, 500), CROWDED);
        c.due("its S is a step, too", x.of(0, 2), 99);
        c.due("the search's own", x.of(0, 3), 1);
        x = Checks.begun("~[2*(8*(a?0,1));~[2*(8*(b?0,1));b=2]]", 0);
        c.due("31 in a not in a not", x.go(0, 500), CROWDED);
        x = Checks.begun("2*(8*(a?0,1));~[3*(5*(b?0,0));b=2]", 0);
        c.due("those of the search don't count in a not", x.go(0, 500), ANSWERED);
        x = Checks.begun("~[2*(8*(a?0,1));~[3*(5*(b?0,1));b=0]]", 0);
        c.due("16 and 15 are too many", x.go(0, 500), CROWDED);
        x = Checks.begun("~[2*(8*(a?0,1));~[2*(7*(b?0,1));b=0]]", 0);
        c.due("30 in all aren't too many", x.go(0, 500), PAUSED);
        x = Checks.begun("5*(8*(a?{0}))", 0);
        c.due("those with nothing left don't count", x.go(0, 500), ANSWERED);
        c.due("40 were made", x.of(0, 5), 40);
        c.due("one at once", x.of(0, 4), 1);
        x = Checks.begun("a?1,6;b?1,6", 1);
        c.due("oldest first: 7 at once", x.all(0, 500), 36);
        c.due("7 at once", x.of(0, 4), 6);
        x = Checks.begun("a?1,31;b?1,2", 1);
        c.due("crowded in breadth", x.all(0, 500), 0);
        c.due("crowded in breadth: done", x.of(0, 0), 2);
        c.due("crowded in breadth: open", x.of(0, 3), 30);
    }

    private static void goFilled() {
        TrailSearch x = Checks.begun("a?1,70", 0);
        for (int i = 0; i < 60; i++) {
            c.due("an answer", x.go(0, 2), ANSWERED);
        }
        c.due("a 61st", x.go(0, 2), FILLED);
        c.due("it isn't kept", x.of(0, 1), 60);
        c.due("done", x.of(0, 0), 2);
        c.due("go then", x.go(0, 2), STATE);
        c.due("steps", x.of(0, 2), 62);
        c.due("open ones stay", x.open(0, 0, 3), 9);
        c.due("the last one", x.answer(0, 59, 0), 60);
        c.due("no other", x.answer(0, 60, 0), NOT);
        x = Checks.begun("a?1,60", 0);
        c.due("60 are kept", x.all(0, 500), 60);
        c.due("done by itself", x.of(0, 2), 61);
        x = Checks.begun("a?1,61", 0);
        c.due("60 come", x.all(0, 500), 60);
        c.due("filled", x.of(0, 2), 62);
    }

    private static void answersAre(String what, TrailSearch x, int[] due) {
        for (int i = 0; i < due.length; i++) {
            c.due(what + ": answer " + i, 10 * x.answer(0, i, 0) + x.answer(0, i, 1), due[i]);
        }
        c.due(what + ": no more", x.answer(0, due.length, 0), NOT);
    }

    private static void goStrategies() {
        TrailSearch x = run("a?1,2;b?1,2", 0, 4, 9);
        answersAre("youngest", x, new int[] {11, 12, 21, 22});
        c.due("youngest: first", x.answer(0, 0, 11), 4);
        x = run("a?1,2;b?1,2", 1, 4, 9);
        answersAre("oldest", x, new int[] {11, 12, 21, 22});
        c.due("oldest: first", x.answer(0, 0, 11), 6);
        c.due("oldest: second", x.answer(0, 1, 11), 7);
        x = Checks.begun("a?1,2;b?1,2", "-a", 2);
        x.all(0, 99);
        answersAre("least cost, oldest", x, new int[] {11, 12, 21, 22});
        c.due("a = 1 costs -1", x.answer(0, 0, 11), 4);
        x = Checks.begun("a?1,2;b?1,2", "a", 2);
        x.all(0, 99);
        c.due("a = 1 costs 1, so a = 2 comes before", x.answer(0, 0, 11), 6);
        x = Checks.begun("a?1,3;b?1,2", "5-a", 3);
        x.all(0, 99);
        answersAre("least cost, youngest", x, new int[] {11, 12, 21, 22, 31, 32});
        x = Checks.begun("a?{0,999,-5};b?1,2", "a*2", 2);
        x.all(0, 99);
        answersAre("what isn't a value costs most", x, new int[] {-49, -48, 1, 2, 9991, 9992});
        x = Checks.begun("a?{0,1,0};b?1,2", 2);
        x.all(0, 99);
        c.due("alike: the oldest", x.answer(0, 0, 11), 8);
        x.begin(0, 0, 3);
        x.all(0, 99);
        c.due("alike: the youngest", x.answer(0, 0, 11), 4);
        x = run("(a?1,2|a?3,4);b?1,2", 4, 8, 21);
        answersAre("least turns", x, new int[] {11, 12, 21, 31, 32, 41, 22, 42});
        c.due("turns of 2, 1", x.answer(0, 2, 9), 1);
        c.due("turns of 4, 2", x.answer(0, 7, 9), 3);
    }

    private static void goDeeper() {
        TrailSearch x = run("(a:1|b?1,2)", 5, 3, 13);
        c.due("deeper: the first", x.answer(0, 0, 0), 1);
        c.due("deeper: when", x.answer(0, 0, 11), 4);
        c.due("deeper: depth", x.answer(0, 0, 8), 1);
        c.due("deeper: the second", x.answer(0, 1, 1), 1);
        c.due("deeper: when", x.answer(0, 1, 11), 12);
        c.due("deeper: values anew", x.answer(0, 1, 0), 0);
        c.due("deeper: depth", x.answer(0, 1, 8), 2);
        c.due("deeper: limit", x.of(0, 9), 2);
        x = run("a:1", 5, 1, 1);
        c.due("no choice: limit", x.of(0, 9), 0);
        x = run("1=2", 5, 0, 1);
        c.due("a way that fails otherwise", x.of(0, 9), 0);
        x = run("a?2,1", 5, 0, 1);
        c.due("no values: no choice point would be made", x.of(0, 9), 0);
        x = Checks.begun("a?1,2", 5);
        c.due("the limit is more without a step", x.go(0, 1), PAUSED);
        c.due("limit", x.of(0, 9), 1);
        c.due("it stands at the begin", x.next(0), NOT);
        c.due("go on", x.go(0, 2), ANSWERED);
        c.due("go on", x.go(0, 1), ANSWERED);
        c.due("done", x.go(0, 1), DONE);
        c.due("made", x.of(0, 5), 1);
        x = run("~[a?1,2;b?1,2;a+b=4]", 5, 0, 14);
        c.due("no limit in a not", x.of(0, 9), 0);
        // the limit comes before the crowd: at 30 a way fails so, at 31 it would be too many
        x = Checks.begun("4*(9*(a?1,2;a=1))", 5);
        for (int i = 0; i < 6; i++) {
            x.all(0, 2000);
        }
        c.due("deep and crowded", x.of(0, 0), 2);
        c.due("limit then", x.of(0, 9), 31);
        c.due("open then", x.of(0, 3), 30);
    }

    private static void all() {
        TrailSearch x = Checks.begun("a?1,3;b:a", 0);
        c.due("all -1", x.all(-1, 1), BAD);
        c.due("all 4", x.all(4, 1), BAD);
        c.due("all by 0", x.all(0, 0), BAD);
        c.due("all by 2001", x.all(0, 2001), BAD);
        c.due("all of none", x.all(1, 1), STATE);
        c.due("all by 3", x.all(0, 3), 1);
        c.due("stands", x.of(0, 0), 1);
        c.due("all by 1", x.all(0, 1), 0);
        c.due("all by 3", x.all(0, 3), 2);
        c.due("done with the last step", x.of(0, 0), 2);
        c.due("all of one that is done", x.all(0, 3), STATE);
        c.due("three in all", x.of(0, 1), 3);
        c.due("by 2000", Checks.begun("a?1,9;b?1,6", 0).all(0, 2000), 54);
    }

    private static void of() {
        TrailSearch x = Checks.begun("a?1,2;b?1,3;!;c:1", 0);
        c.due("of -1", x.of(-1, 0), BAD);
        c.due("of 4", x.of(4, 0), BAD);
        c.due("of what -1", x.of(0, -1), BAD);
        c.due("of what 10", x.of(0, 10), BAD);
        c.due("of none, what 10", x.of(1, 10), BAD);
        c.due("of none", x.of(1, 0), 0);
        for (int what = 1; what <= 9; what++) {
            c.due("of none", x.of(1, what), STATE);
        }
        c.due("limit of another strategy", x.of(0, 9), NOT);
        c.due("begun", x.of(0, 0), 1);
        x.go(0, 4);
        int[] before = {1, 0, 4, 2, 2, 2, 2, 0, 0};
        for (int what = 0; what <= 8; what++) {
            c.due("before the cut: of " + what, x.of(0, what), before[what]);
        }
        x.go(0, 1);
        c.due("open behind the cut", x.of(0, 3), 0);
        c.due("gone by the cut", x.of(0, 7), 2);
        c.due("made", x.of(0, 5), 2);
        x.all(0, 99);
        int[] then = {2, 1, 6, 0, 2, 2, 2, 2, 0};
        for (int what = 0; what <= 8; what++) {
            c.due("done: of " + what, x.of(0, what), then[what]);
        }
    }

    private static void undone() {
        TrailSearch x = Checks.begun("a?1,2;b:5;c:6", 0);
        x.go(0, 500);
        c.due("nothing yet", x.of(0, 8), 0);
        x.go(0, 500);
        c.due("a, b, c", x.of(0, 8), 3);
        x = Checks.begun("a:1;b?1,2;a:0-a;a=2", 0);
        x.all(0, 99);
        c.due("a and b, once", x.of(0, 8), 2);
        x = Checks.begun("a?1,2;b?1,2", 1);
        x.all(0, 99);
        // a = 1 made b's; then a is taken (1 otherwise); then b of a = 1 (a otherwise); its second
        // (b otherwise); b of a = 2 (a and b otherwise); its second (b)
        c.due("oldest first", x.of(0, 8), 1 + 1 + 1 + 2 + 1);
        x = Checks.begun("a?1,2;~[b:1;c:1;d?1,2;d=2]", 0);
        x.all(0, 99);
        c.due("those within a not don't count", x.of(0, 8), 1);
        x = Checks.begun("a:7;b?1,1", 5);
        x.all(0, 99);
        c.due("begun anew is no taking", x.of(0, 8), 0);
    }

    private static void answer() {
        TrailSearch x = Checks.begun("h:8;a?1,2;b?1,2;g:a*10+b", "g-20", 0);
        x.all(0, 99);
        c.due("answer of -1", x.answer(-1, 0, 0), BAD);
        c.due("answer of 4", x.answer(4, 0, 0), BAD);
        c.due("answer -1", x.answer(0, -1, 0), BAD);
        c.due("answer what -1", x.answer(0, 0, -1), BAD);
        c.due("answer what 12", x.answer(0, 0, 12), BAD);
        c.due("answer of none, -1", x.answer(1, -1, 0), BAD);
        c.due("answer of none", x.answer(1, 0, 0), STATE);
        c.due("no 5th answer", x.answer(0, 4, 0), NOT);
        c.due("far beyond", x.answer(0, Integer.MAX_VALUE, 11), NOT);
        int[] due = {2, 1, 0, 0, 0, 0, 21, 8, 2, 1, 1, 12};
        for (int what = 0; what < 12; what++) {
            c.due("third answer: " + what, x.answer(0, 2, what), due[what]);
        }
        c.due("turns of the last", x.answer(0, 3, 9), 2);
        x = Checks.begun("a:999", "a+1", 0);
        x.all(0, 99);
        c.due("a cost that isn't a value", x.answer(0, 0, 10), 999999);
    }

    private static void open() {
        TrailSearch x = Checks.begun("a:4;b?1,3;h:9;c?{7,8,7,8};(d:1|d:2|d:3)", "b+c", 0);
        c.due("none open", x.open(0, 0, 0), NOT);
        x.go(0, 8);
        x.go(0, 4);
        c.due("open of -1", x.open(-1, 0, 0), BAD);
        c.due("open of 4", x.open(4, 0, 0), BAD);
        c.due("open -1", x.open(0, -1, 0), BAD);
        c.due("open what -1", x.open(0, 0, -1), BAD);
        c.due("open what 12", x.open(0, 0, 12), BAD);
        c.due("open of none, what 12", x.open(1, 0, 12), BAD);
        c.due("open of none", x.open(1, 0, 0), STATE);
        c.due("a fourth", x.open(0, 3, 0), NOT);
        c.due("far beyond", x.open(0, Integer.MAX_VALUE, 0), NOT);
        int[][] due = {
            {0, 0, 0, 2, 4, 0, 0, 0, 0, 0, 0, 0},
            {1, 0, 1, 3, 4, 1, 0, 0, 0, 0, 0, 9},
            {2, 0, 8, 2, 4, 1, 7, 0, 0, 0, 0, 9}};
        for (int i = 0; i < 3; i++) {
            for (int what = 0; what < 12; what++) {
                c.due("open " + i + ": " + what, x.open(0, i, what), due[i][what]);
            }
        }
        x.all(0, 8);
        c.due("a turn before it", x.open(0, 2, 1), 1);
        c.due("its value", x.open(0, 2, 6), 8);
        x = Checks.begun("a:999;b?1,2", "a*2", 0);
        x.go(0, 2);
        c.due("a cost that isn't a value", x.open(0, 0, 2), 999999);
    }

    private static void next() {
        TrailSearch x = Checks.begun("a?1,3;b?1,2", 1);
        c.due("next of -1", x.next(-1), BAD);
        c.due("next of 4", x.next(4), BAD);
        c.due("next of none", x.next(1), STATE);
        c.due("at the begin", x.next(0), NOT);
        x.go(0, 1);
        c.due("the only one", x.next(0), 0);
        x.go(0, 1);
        c.due("in the midst", x.next(0), NOT);
        x.go(0, 1);
        c.due("the oldest", x.next(0), 0);
        x.turn(0, 0);
        c.due("the youngest", x.next(0), 1);
        x.turn(0, 4);
        c.due("the least turns", x.next(0), 1);
        x.go(0, 1);
        c.due("behind an answer", x.next(0), 1);
        x.turn(0, 2);
        c.due("like costs: the oldest", x.next(0), 0);
        x.turn(0, 3);
        c.due("like costs: the youngest", x.next(0), 1);
        x.all(0, 99);
        c.due("done", x.next(0), NOT);
        x = Checks.begun("a:1", 0);
        x.go(0, 9);
        c.due("none is open", x.next(0), NOT);
    }

    private static void ordered() {
        TrailSearch x = Checks.begun("a?{5,3,9,3,-1,5}", "a*a", 0);
        x.all(0, 99);
        c.due("ordered of -1", x.ordered(-1, 0), BAD);
        c.due("ordered of 4", x.ordered(4, 0), BAD);
        c.due("ordered -1", x.ordered(0, -1), BAD);
        c.due("ordered of none, -1", x.ordered(1, -1), BAD);
        c.due("ordered of none", x.ordered(1, 0), STATE);
        int[] due = {4, 1, 3, 0, 5, 2};
        for (int i = 0; i < 6; i++) {
            c.due("ordered " + i, x.ordered(0, i), due[i]);
        }
        c.due("no seventh", x.ordered(0, 6), NOT);
        x = Checks.begun("a?{9,999,1,998}", "a+1", 0);
        x.all(0, 99);
        c.due("what isn't a value is last", x.ordered(0, 3), 1);
        x = Checks.begun("a?{3,2,1}", 0);
        x.all(0, 99);
        c.due("no cost: as they came", x.ordered(0, 0), 0);
    }

    private static void common() {
        TrailSearch x = new TrailSearch();
        Checks.program(x, 0, "a?{1,2,2,3}");
        Checks.program(x, 1, "a?{2,3,4,2,2}");
        Checks.program(x, 2, "a?{1,2};h:1");
        x.begin(0, 0, 0);
        x.begin(1, 1, 0);
        x.begin(2, 2, 0);
        c.due("none yet", x.common(0, 1), 0);
        for (int k = 0; k < 3; k++) {
            x.all(k, 99);
        }
        c.due("common -1", x.common(-1, 0), BAD);
        c.due("common 4", x.common(0, 4), BAD);
        c.due("common none, 4", x.common(3, 4), BAD);
        c.due("common none", x.common(3, 0), STATE);
        c.due("common none", x.common(0, 3), STATE);
        c.due("of the one", x.common(0, 1), 3);
        c.due("of the other", x.common(1, 0), 4);
        c.due("by all values", x.common(0, 2), 0);
        c.due("with itself", x.common(0, 0), 4);
    }

    private static void unlike() {
        TrailSearch x = Checks.begun("a?{1,2,1,3,4,1}", 0);
        c.due("unlike -1", x.unlike(-1), BAD);
        c.due("unlike 4", x.unlike(4), BAD);
        c.due("unlike none", x.unlike(1), STATE);
        c.due("none yet", x.unlike(0), 0);
        x.all(0, 99);
        c.due("four", x.unlike(0), 4);
        x = Checks.begun("a?{1,1};h?1,2;h:h", 0);
        x.all(0, 99);
        c.due("by all values", x.unlike(0), 2);
        x = Checks.begun("(a:1|b?1,1;b:0;a:1)", "a", 0);
        x.all(0, 99);
        c.due("two answers of unlike depth", x.of(0, 1), 2);
        c.due("by values alone", x.unlike(0), 1);
        c.due("by values alone, in common", x.common(0, 0), 2);
    }

    private static void turn() {
        TrailSearch x = Checks.begun("a?1,3;b?1,2", 3);
        c.due("turn -1", x.turn(-1, 0), BAD);
        c.due("turn 4", x.turn(4, 0), BAD);
        c.due("turn to -1", x.turn(0, -1), BAD);
        c.due("turn to 5", x.turn(0, 5), BAD);
        c.due("turn none to 5", x.turn(1, 5), BAD);
        c.due("turn none", x.turn(1, 0), STATE);
        c.due("it was 3", x.turn(0, 1), 3);
        c.due("it was 1", x.turn(0, 4), 1);
        c.due("it was 4", x.turn(0, 0), 4);
        c.due("it was 0", x.turn(0, 2), 0);
        x.go(0, 3);
        x.turn(0, 1);
        x.go(0, 1);
        c.due("the older one was taken", x.open(0, 0, 3), 1);
        x.begin(0, 0, 5);
        c.due("it is 5", x.turn(0, 0), STATE);
        c.due("it stays so", x.of(0, 9), 0);
        c.due("5 to 5", x.turn(0, 5), BAD);
        x.begin(0, 0, 0);
        x.all(0, 99);
        c.due("one that is done", x.turn(0, 1), 0);
    }

    private static void copy() {
        TrailSearch x = Checks.begun("a?1,3;~[b?1,2;b=a];c?1,2", "c-a", 0);
        c.due("copy -1", x.copy(-1, 0), BAD);
        c.due("copy to 4", x.copy(0, 4), BAD);
        c.due("copy none to 4", x.copy(1, 4), BAD);
        c.due("copy none", x.copy(1, 0), STATE);
        c.due("it is as it was", x.of(0, 0), 1);
        x.go(0, 5);
        c.due("in the midst of a not", x.copy(0, 1), 0);
        int answers = x.all(0, 99);
        c.due("both by themselves", x.of(1, 2), 5);
        c.due("alike", x.all(1, 99), answers);
        for (int what = 0; what <= 8; what++) {
            c.due("alike: of " + what, x.of(1, what), x.of(0, what));
        }
        for (int what = 0; what < 12; what++) {
            c.due("alike: answer " + what, x.answer(1, 1, what), x.answer(0, 1, what));
        }
        c.due("one that is done", x.copy(1, 2), answers);
        c.due("it is done, too", x.go(2, 1), STATE);
        c.due("to itself", x.copy(1, 1), answers);
        c.due("cost and program are copied", x.answer(2, 0, 10), x.answer(0, 0, 10));
        for (int i = 0; i < USUAL.length * 6 * 7; i++) {
            int run = i;
            alike("copy", () -> copied(run, 0), 1, () -> copied(run, 0), 0);
            alike("copy over another", () -> copied(run, 0), 2, () -> copied(run, 0), 0);
            alike("copy gone on with", () -> copied(run, 200), 1, () -> copied(run, 200), 0);
            alike("the other copy gone on with", () -> copied(run, 200), 2, () -> copied(run, 200), 0);
            alike("they are gone on with by themselves", () -> copied(run, 0), 0, () -> gone(run), 0);
        }
        x = Checks.begun("a?1,3;b?1,3", 1);
        x.go(0, 7);
        x.copy(0, 3);
        c.due("the strategy is copied", x.turn(3, 0), 1);
        c.due("the other one keeps its own", x.turn(0, 1), 1);
        x = Checks.begun("a?1,2", 5);
        x.go(0, 1);
        x.copy(0, 2);
        c.due("the limit is copied", x.of(2, 9), 1);
        c.due("none becomes one", x.all(2, 9), 2);
    }

    /** One of the usual texts, gone on with for some STEPS. */
    private static TrailSearch gone(int run) {
        TrailSearch x = Checks.begun(USUAL[run % USUAL.length], "a*b-c", run / USUAL.length % 6);
        x.all(0, 1 + 7 * (run / USUAL.length / 6) + run % 5);
        return x;
    }

    /** The same, copied to two others, and all three gone on with for some more. */
    private static TrailSearch copied(int run, int more) {
        TrailSearch x = gone(run);
        x.copy(0, 1);
        x.begin(2, 0, 0);
        x.all(2, 30);
        x.copy(0, 2);
        for (int s = 0; s < 3 && more > 0; s++) {
            x.all(s, more);
        }
        return x;
    }

    private static void would() {
        TrailSearch x = Checks.begun("a?1,3;b:a", 0);
        c.due("would -1", x.would(-1, 1, 0), BAD);
        c.due("would 4", x.would(4, 1, 0), BAD);
        c.due("would by 0", x.would(0, 0, 0), BAD);
        c.due("would by 501", x.would(0, 501, 0), BAD);
        c.due("would what -1", x.would(0, 1, -1), BAD);
        c.due("would what 3", x.would(0, 1, 3), BAD);
        c.due("would none, what 3", x.would(1, 1, 3), BAD);
        c.due("would none", x.would(1, 1, 0), STATE);
        c.due("answers by 5", x.would(0, 5, 0), 2);
        c.due("done by 5", x.would(0, 5, 1), 0);
        c.due("steps by 5", x.would(0, 5, 2), 5);
        c.due("answers by 500", x.would(0, 500, 0), 3);
        c.due("done by 500", x.would(0, 500, 1), 1);
        c.due("steps by 500", x.would(0, 500, 2), 7);
        c.due("only in thought", x.of(0, 2), 0);
        c.due("only in thought", x.of(0, 1), 0);
        x.go(0, 500);
        c.due("with those it has", x.would(0, 2, 0), 2);
        c.due("with the steps it has", x.would(0, 2, 2), 5);
        x.all(0, 500);
        c.due("done: answers", x.would(0, 1, 0), 3);
        c.due("done: done", x.would(0, 1, 1), 1);
        c.due("done: steps", x.would(0, 1, 2), 7);
        x = Checks.begun("a?1,70", 0);
        c.due("filled: answers", x.would(0, 500, 0), 60);
        c.due("filled: done", x.would(0, 500, 1), 1);
    }

    private static void count() {
        TrailSearch x = new TrailSearch();
        c.due("count -1", x.count(-1), BAD);
        c.due("count 4", x.count(4), BAD);
        Checks.program(x, 0, "a?1,3");
        Checks.program(x, 3, "a?1,2");
        Checks.program(x, 3, "a?1,2");
        c.due("programs", x.count(0), 2);
        Checks.feed(x, "abc");
        c.due("bytes", x.count(1), 3);
        c.due("no searches", x.count(2), 0);
        for (int k = 0; k < 4; k++) {
            x.begin(k, k == 3 ? 3 : 0, 0);
        }
        c.due("searches", x.count(2), 4);
        x.all(0, 99);
        x.all(3, 99);
        x.go(1, 99);
        c.due("not done", x.count(2), 2);
        c.due("answers", x.count(3), 6);
        x.begin(0, 0, 0);
        c.due("begun anew", x.count(2), 3);
        c.due("answers then", x.count(3), 3);
        c.due("constants", TrailSearch.BAD + TrailSearch.NOT * 3 + TrailSearch.STATE * 5, -2001 - 2002 * 3 - 2003 * 5);
    }
}
