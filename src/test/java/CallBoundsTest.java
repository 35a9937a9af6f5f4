/**
 * The promises, call by call: the last number that is allowed and the first that isn't, on both
 * sides; the empty case and the full one; the order of the refusals. That a refused call changes
 * nothing is looked at by Rows at each row that is refused.
 */
public final class CallBoundsTest {
    private static final Checks c = new Checks("CallBoundsTest");
    /** Numbers that are none of 0 .. 3, some of them so by a wrap-around alone. */
    private static final String[] NO_NUMBERS = {"-1", "4", "5", "256", "-4", "65536", "MAX", "MIN"};
    /** Runs for more STEPS than all budgets of a test, with no ANSWER. */
    private static final String LONG = "9*(9*(9*(9*(a:1))))";
    /** Thirty CHOICE POINTS that stay OPEN, in 93 STEPS. */
    private static final String THIRTY = "3*(9*(a?0,1));3*(a?0,1)";

    public static void main(String[] args) {
        newObject();
        noneAtFirst();
        feed();
        fullTape();
        program();
        programStays();
        cost();
        begin();
        go();
        goneOnWith();
        all();
        of();
        answer();
        open();
        next();
        ordered();
        common();
        unlike();
        turn();
        copy();
        would();
        count();
        allDone();
        c.end();
    }

    private static void rows(String title, String... rows) {
        Rows.run(c, title, rows);
    }

    private static void search(String title, String text, int strategy, String... rows) {
        Rows.search(c, title, text, strategy, rows);
    }

    /** A row by row table of the same due, for each of some numbers put in the place of @. */
    private static void each(String title, String[] numbers, String due, String... calls) {
        String[] setup = {"program 0 a?1,3;b:a = 2", "cost 0 b-1 = 1", "begin 0 0 0 = 1", "program 1 b?2,4 = 1",
            "begin 1 1 1 = 1", "go 0 3 = ANSWERED", "all 1 99 = 3", "go 0 1 = PAUSED", "text a:1;"};
        for (String call : calls) {
            for (String number : numbers) {
                String[] table = java.util.Arrays.copyOf(setup, setup.length + 1);
                table[setup.length] = call.replace("@", number) + " = " + due;
                rows(title, table);
            }
        }
    }

    /** Promise 1: "No programs." */
    private static void newObject() {
        rows("a new object", "count 0 = 0", "count 1 = 0", "count 2 = 0", "count 3 = 0");
        for (int k = 0; k < 4; k++) {
            rows("a new object has no program", "begin 0 " + k + " 0 = STATE", "cost " + k + " = STATE", "of 0 0 = 0");
        }
        rows("an empty tape is no program", "program 0 = -100", "count 0 = 0", "begin 0 0 0 = STATE");
        rows("nor is a tape of a cost", "text a+1", "cost 0 = STATE", "count 1 = 3", "program 0 = -103", "count 1 = 0");
    }

    /** "SEARCHES 0 .. 3: none at first": what each call answers of one that is none. */
    private static void noneAtFirst() {
        for (int s = 0; s < 4; s++) {
            rows("a search that is none", "program 0 a?1,2 = 1", "of " + s + " 0 = 0", "go " + s + " 1 = STATE",
                "all " + s + " 1 = STATE", "of " + s + " 1 = STATE", "of " + s + " 2 = STATE", "of " + s + " 3 = STATE",
                "of " + s + " 4 = STATE", "of " + s + " 5 = STATE", "of " + s + " 6 = STATE", "of " + s + " 7 = STATE",
                "of " + s + " 8 = STATE", "of " + s + " 9 = STATE", "answer " + s + " 0 0 = STATE",
                "answer " + s + " 0 11 = STATE", "open " + s + " 0 0 = STATE", "open " + s + " 0 11 = STATE",
                "next " + s + " = STATE", "ordered " + s + " 0 = STATE", "common " + s + " " + s + " = STATE",
                "unlike " + s + " = STATE", "turn " + s + " 0 = STATE", "copy " + s + " 0 = STATE",
                "would " + s + " 1 0 = STATE", "count 2 = 0", "count 3 = 0", "begin " + s + " 0 0 = 1",
                "of " + s + " 0 = 1", "count 2 = 1", "all " + s + " 9 = 2");
        }
        search("one is begun, the others are none", "a?1,2", 0, "of 0 0 = 1", "of 1 0 = 0", "of 2 0 = 0", "of 3 0 = 0",
            "go 1 1 = STATE", "go 3 1 = STATE", "count 2 = 1");
    }

    /** Promise 2: "A byte (1 .. 255) comes to THE TAPE: how many it has. BAD: no byte" */
    private static void feed() {
        rows("the least byte", "feed 1 = 1", "feed 0 = BAD", "count 1 = 1", "feed 1 = 2");
        rows("the most byte", "feed 255 = 1", "feed 256 = BAD", "count 1 = 1", "feed 255 = 2");
        for (String none : new String[] {"0", "-1", "256", "257", "353", "-159", "65633", "MAX", "MIN"}) {
            rows("no byte", "feed " + none + " = BAD", "count 1 = 0", "feed 97 = 1", "feed " + none + " = BAD",
                "count 1 = 1", "feed 58 = 2", "feed 49 = 3", "feed " + none + " = BAD", "program 0 = 1");
        }
        for (int letter = 1; letter <= 255; letter++) {
            rows("each byte", "feed " + letter + " = 1", "feed " + letter + " = 2");
        }
    }

    /** "NOT: 150." */
    private static void fullTape() {
        String full = "a:1;".repeat(37) + "!";
        rows("a byte less than full", "text " + full, "count 1 = 149", "feed 59 = 150", "feed 59 = NOT",
            "program 0 = -250", "count 1 = 0", "feed 59 = 1");
        rows("full", "text " + full + ";", "feed 97 = NOT", "feed 1 = NOT", "feed 255 = NOT", "feed 0 = BAD",
            "feed 256 = BAD", "feed MIN = BAD", "feed MAX = BAD", "count 1 = 150");
        rows("full: the program is of those that came", "text " + "a:" + "-".repeat(147) + "1", "feed 49 = NOT",
            "program 0 = 1", "feed 97 = 1");
        rows("full again", "text " + full + ";", "program 0 = -250", "text " + full + ";", "feed 97 = NOT");
    }

    /** Promise 3: "BAD (THE TAPE stays)", "-100 less the FAULT (nothing changes)", "without a COST" */
    private static void program() {
        for (String none : NO_NUMBERS) {
            rows("no such number", "text a:1", "program " + none + " = BAD", "count 1 = 3", "count 0 = 0",
                "program 0 = 1", "count 0 = 1", "program " + none + " = BAD", "text a:", "program " + none + " = BAD",
                "count 1 = 2", "feed 50 = 3", "program 3 = 1", "count 0 = 2", "count 1 = 0");
        }
        for (int k = 0; k < 4; k++) {
            rows("each number", "program " + k + " a:1;b:2 = 2", "count 0 = 1", "count 1 = 0", "begin 0 " + k + " 0 = 1",
                "begin 0 " + (k + 1) % 4 + " 0 = STATE", "begin 0 " + (k + 3) % 4 + " 0 = STATE");
        }
        rows("a fault leaves what was", "program 0 a:1 = 1", "cost 0 a+4 = 1", "program 0 = -100",
            "program 0 b:2; = -104", "program 0 b:2;b = -105", "program 0 b:2;? = -104",
            "count 0 = 1", "begin 0 0 0 = 1", "go 0 1 = ANSWERED", "answer 0 0 : 1 0 0 0 0 0 0 0 0 0 5 1");
        rows("a fault makes none", "program 2 ( = -101", "count 0 = 0", "begin 0 2 0 = STATE");
        rows("without a cost", "program 1 a:1 = 1", "cost 1 a+4 = 1", "program 1 a:1 = 1", "begin 0 1 0 = 1",
            "go 0 1 = ANSWERED", "answer 0 0 10 = 0");
        rows("a smaller one in its place", "program 1 a:1;b:2;c:3 = 3", "program 1 d:4 = 1", "begin 0 1 0 = 1",
            "go 0 1 = ANSWERED", "answer 0 0 : 0 0 0 4 0 0 0 0 0 0 0 1");
        rows("how many S's", "program 0 (!;[!]|~[!]);2*(!) = 8", "count 0 = 1");
    }

    /** "SEARCHES that were begun go on by what it was." */
    private static void programStays() {
        rows("at its begin", "program 0 a?1,3;b:a = 2", "cost 0 b = 1", "begin 0 0 0 = 1", "program 0 c:9 = 1",
            "cost 0 c = 1", "all 0 99 = 3", "answer 0 2 : 3 3 0 0 0 0 0 0 1 1 3 7");
        rows("in its midst", "program 0 a?1,3;b:a = 2", "cost 0 b = 1", "begin 0 0 0 = 1", "go 0 3 = ANSWERED",
            "go 0 1 = PAUSED", "program 0 c:9;d:9 = 2", "all 0 99 = 2", "answer 0 2 : 3 3 0 0 0 0 0 0 1 1 3 7", "ordered 0 2 = 2");
        rows("by a fault, too", "program 0 a?1,3;b:a = 2", "begin 0 0 0 = 1", "go 0 2 = PAUSED", "program 0 c:9; = -104",
            "all 0 99 = 3", "of 0 2 = 7");
        rows("a copy of it, too", "program 0 a?1,3;b:a = 2", "begin 0 0 0 = 1", "program 0 c:9 = 1", "copy 0 1 = 0",
            "all 1 99 = 3", "answer 1 2 : 3 3 0");
    }

    /** Promise 4: "BAD; STATE: no PROGRAM (THE TAPE stays by these)", "-100 less the FAULT (nothing changes)" */
    private static void cost() {
        for (String none : NO_NUMBERS) {
            rows("no such number", "program 0 a:1 = 1", "text a+", "cost " + none + " = BAD", "count 1 = 2", "feed 49 = 3",
                "cost " + none + " = BAD", "count 1 = 3", "cost 0 = 1", "count 1 = 0", "cost " + none + " = BAD");
        }
        for (int k = 0; k < 4; k++) {
            int other = (k + 1) % 4;
            rows("no program", "program " + k + " a:1 = 1", "text a+", "cost " + other + " = STATE", "count 1 = 2",
                "feed 49 = 3", "cost " + other + " = STATE", "cost " + k + " = 1", "count 1 = 0",
                "cost " + other + " = STATE", "begin 3 " + k + " 0 = 1", "go 3 1 = ANSWERED", "answer 3 0 10 = 2");
        }
        rows("a fault leaves what was", "program 0 a:1 = 1", "cost 0 a+4 = 1", "cost 0 = -100", "cost 0 a+ = -102",
            "cost 0 a< = -101", "cost 0 a+b; = -103", "cost 0 !; = -100", "cost 0 (a) = -100", "count 0 = 1",
            "begin 0 0 0 = 1", "go 0 1 = ANSWERED", "answer 0 0 10 = 5");
        rows("a fault leaves none", "program 0 a:1 = 1", "cost 0 a+ = -102", "begin 0 0 0 = 1", "go 0 1 = ANSWERED",
            "answer 0 0 10 = 0");
        rows("another one", "program 0 a:1 = 1", "cost 0 a+a+a+a = 1", "cost 0 -a = 1", "begin 0 0 0 = 1",
            "go 0 1 = ANSWERED", "answer 0 0 10 = -1");
        rows("searches keep the cost of then", "program 0 a?5,6 = 1", "begin 0 0 0 = 1", "cost 0 a = 1", "begin 1 0 0 = 1",
            "cost 0 -a = 1", "all 0 9 = 2", "all 1 9 = 2", "answer 0 1 10 = 0", "answer 1 1 10 = 6");
    }

    /** Promise 5: "BAD: no SEARCH, STRATEGY; STATE: no such PROGRAM (a number beyond them, too)." */
    private static void begin() {
        each("no search", NO_NUMBERS, "BAD", "begin @ 0 0", "begin @ 3 0", "begin @ 4 0", "begin @ -1 6");
        each("no strategy", new String[] {"-1", "6", "7", "MAX", "MIN"}, "BAD", "begin 0 0 @", "begin 3 0 @",
            "begin 3 3 @", "begin 3 -1 @", "begin 3 4 @", "begin -1 0 @");
        each("no program", new String[] {"2", "3", "4", "-1", "256", "MAX", "MIN"}, "STATE", "begin 0 @ 0",
            "begin 3 @ 5", "begin 1 @ 0");
        for (int s = 0; s < 4; s++) {
            for (int strategy = 0; strategy <= 5; strategy++) {
                rows("each search and strategy", "program " + s + " a?1,2 = 1", "begin " + s + " " + s + " " + strategy + " = 1",
                    "of " + s + " 0 = 1", "of " + s + " 1 = 0", "of " + s + " 2 = 0", "next " + s + " = NOT",
                    "all " + s + " 99 = 2");
            }
        }
        rows("anew", "program 0 a?1,3;b?1,2;!;c?1,1 = 4", "begin 0 0 0 = 1", "all 0 500 = 1", "begin 0 0 1 = 1",
            "of 0 : 1 0 0 0 0 0 0 0 0", "of 0 9 = NOT", "answer 0 0 0 = NOT", "open 0 0 0 = NOT", "next 0 = NOT",
            "ordered 0 0 = NOT", "unlike 0 = 0", "count 2 = 1", "count 3 = 0", "all 0 500 = 3");
        rows("anew, where some are open", "program 0 a?1,3;b?1,2 = 2", "begin 0 0 0 = 1", "go 0 4 = ANSWERED",
            "of 0 3 = 2", "begin 0 0 0 = 1", "of 0 : 1 0 0 0 0 0 0 0 0", "open 0 0 0 = NOT", "next 0 = NOT",
            "go 0 1 = PAUSED", "of 0 3 = 1", "all 0 99 = 6", "of 0 4 = 2");
        rows("anew, where a not has some open", "program 0 ~[" + THIRTY + ";1=1] = 7", "begin 0 0 0 = 1",
            "go 0 94 = PAUSED", "begin 0 0 0 = 1", "go 0 500 = DONE", "of 0 2 = 95");
        rows("anew, where the limit is more", "program 0 a?1,2;b?1,2 = 2", "begin 0 0 5 = 1", "all 0 500 = 4",
            "of 0 9 = 2", "begin 0 0 5 = 1", "of 0 9 = 0", "go 0 1 = PAUSED", "of 0 9 = 1", "all 0 500 = 4",
            "of 0 9 = 2", "of 0 2 = 15");
        rows("anew, where rounds are left", "program 0 " + LONG + " = 5", "begin 0 0 0 = 1", "go 0 4 = PAUSED",
            "program 0 (((([a:1])));b:a);(b:b+1) = 9", "begin 0 0 0 = 1", "all 0 99 = 1", "answer 0 0 : 1 2", "of 0 2 = 14");
        rows("anew, where a way came through some", "program 0 a?1,2;b?1,2 = 2", "program 1 a?1,3;b?1,2;! = 3",
            "begin 0 0 0 = 1", "go 0 4 = ANSWERED", "begin 0 1 1 = 1", "go 0 7 = PAUSED", "turn 0 0 = 1",
            "go 0 2 = ANSWERED", "of 0 7 = 1", "of 0 3 = 2", "go 0 2 = ANSWERED", "of 0 7 = 2");
        rows("anew, where a way failed by the limit", "program 0 a?{1,2};a=1;b?1,1 = 3", "begin 0 0 5 = 1",
            "go 0 5 = PAUSED", "program 1 a?1,1;1=2 = 2", "begin 0 1 5 = 1", "go 0 500 = DONE", "of 0 2 = 4", "of 0 9 = 1");
        rows("anew in its midst", "program 0 ~[a?1,3;a=4];b?1,2 = 4", "begin 0 0 5 = 1", "go 0 5 = PAUSED",
            "begin 0 0 5 = 1", "of 0 : 1 0 0 0 0 0 0 0 0 0", "all 0 500 = 2");
    }

    /** Promise 6: "a BUDGET (1 .. 500) .. BAD; STATE: none, or it is done already." */
    private static void go() {
        each("no search", NO_NUMBERS, "BAD", "go @ 1", "go @ 0", "go @ 501");
        each("no budget", new String[] {"0", "-1", "501", "502", "2000", "65537", "MAX", "MIN"}, "BAD", "go 0 @",
            "go 1 @", "go 2 @", "go 3 @", "go 4 @");
        each("none", new String[] {"2", "3"}, "STATE", "go @ 1", "go @ 500");
        each("done already", new String[] {"1", "2", "500"}, "STATE", "go 1 @");
        search("the least budget", LONG, 0, "go 0 1 = PAUSED", "of 0 2 = 1");
        search("the most", LONG, 0, "go 0 500 = PAUSED", "of 0 2 = 500", "go 0 501 = BAD", "of 0 2 = 500",
            "go 0 499 = PAUSED", "of 0 2 = 999");
    }

    private static void goneOnWith() {
        search("answered", "a?1,2", 0, "go 0 500 = ANSWERED", "of 0 0 = 1", "go 0 500 = ANSWERED", "of 0 0 = 1");
        search("paused", "a?1,2", 0, "go 0 1 = PAUSED", "of 0 0 = 1");
        search("done", "1=2", 0, "go 0 1 = DONE", "of 0 0 = 2", "go 0 1 = STATE", "go 0 0 = BAD", "go 0 501 = BAD");
        search("crowded", THIRTY + ";b?1,2", 0, "go 0 500 = CROWDED", "of 0 0 = 2", "go 0 1 = STATE", "go 0 0 = BAD");
        search("filled", "a?1,99", 0, "60x go 0 500 = ANSWERED", "go 0 500 = FILLED", "of 0 0 = 2", "go 0 1 = STATE",
            "go 0 0 = BAD");
        search("an answer with the most", "9*(9*(2*(a:1)));9*(3*(a:1));5*(a:1)", 0, "of 0 2 = 0", "go 0 500 = fine",
            "go 0 500 = fine", "of 0 1 = 1");
    }

    /** Promise 7: "by one BUDGET (1 .. 2000) till it is done, or the BUDGET is: how many ANSWERS came by this" */
    private static void all() {
        each("no search", NO_NUMBERS, "BAD", "all @ 1", "all @ 0", "all @ 2001");
        each("no budget", new String[] {"0", "-1", "2001", "2002", "65537", "MAX", "MIN"}, "BAD", "all 0 @", "all 1 @",
            "all 2 @", "all 3 @", "all 4 @");
        each("none", new String[] {"2", "3"}, "STATE", "all @ 1", "all @ 2000");
        each("done already", new String[] {"1", "2", "2000"}, "STATE", "all 1 @");
        search("the least budget", LONG, 0, "all 0 1 = 0", "of 0 2 = 1");
        search("the most", LONG, 0, "all 0 2000 = 0", "of 0 2 = 2000", "all 0 2001 = BAD", "of 0 2 = 2000",
            "all 0 1999 = 0", "of 0 2 = 3999");
        search("none came", "1=2", 0, "all 0 1 = 0", "of 0 0 = 2", "all 0 1 = STATE");
        search("those that came by this", "a?1,5", 0, "go 0 2 = ANSWERED", "all 0 2 = 2", "all 0 1 = 1", "all 0 1 = 1",
            "of 0 1 = 5", "of 0 0 = 2");
        search("the budget is out before one", "a?1,5;b:a", 0, "all 0 2 = 0", "all 0 1 = 1", "all 0 1 = 0",
            "all 0 1 = 1", "all 0 3 = 1", "all 0 3 = 2", "of 0 0 = 2");
        search("sixty came", "a?1,99", 0, "all 0 2000 = 60", "of 0 0 = 2", "all 0 1 = STATE");
        search("crowded", THIRTY + ";b?1,2", 0, "all 0 2000 = 0", "of 0 0 = 2", "all 0 1 = STATE");
    }

    /** Promise 8: "what 0 .. 9", "LIMIT (9; NOT: another STRATEGY). BAD; STATE: none (1 to 9)" */
    private static void of() {
        each("no search", NO_NUMBERS, "BAD", "of @ 0", "of @ 1", "of @ 9", "of @ 10");
        each("no such number", new String[] {"-1", "10", "11", "256", "MAX", "MIN"}, "BAD", "of 0 @", "of 1 @", "of 2 @",
            "of 3 @");
        each("none", new String[] {"1", "2", "3", "4", "5", "6", "7", "8", "9"}, "STATE", "of 2 @", "of 3 @");
        each("none has a number 0", new String[] {"2", "3"}, "0", "of @ 0");
        for (int strategy = 0; strategy <= 4; strategy++) {
            search("no limit", "a?1,2", strategy, "of 0 9 = NOT", "go 0 1 = PAUSED", "of 0 9 = NOT", "all 0 99 = 2",
                "of 0 9 = NOT");
        }
        search("a limit", "a?1,2", 5, "of 0 9 = 0", "all 0 99 = 2", "of 0 9 = 1");
        search("begun", "!", 0, "of 0 : 1 0 0 0 0 0 0 0 0");
        search("each of them", "a:7;b?1,3;b=2;c?1,2;[d?1,4];a:0", 0, "go 0 12 = ANSWERED",
            "of 0 : 1 1 12 2 3 3 4 1 1");
        search("each of them, done", "a:7;b?1,3;b=2;c?1,2;[d?1,4];a:0", 0, "all 0 500 = 2",
            "of 0 : 2 2 19 0 3 4 7 2 8");
    }

    /** Promise 9: "A VARIABLE (0 .. 7) ..; DEPTH (8), TURNS (9), COST (10), STEPS (11). BAD; STATE; NOT" */
    private static void answer() {
        each("no search", NO_NUMBERS, "BAD", "answer @ 0 0", "answer @ -1 0", "answer @ 0 12", "answer @ 99 0");
        each("an i below 0", new String[] {"-1", "-2", "MIN"}, "BAD", "answer 0 @ 0", "answer 1 @ 11", "answer 2 @ 0",
            "answer 2 @ 12");
        each("no such number", new String[] {"-1", "12", "13", "256", "MAX", "MIN"}, "BAD", "answer 0 0 @",
            "answer 0 1 @", "answer 1 99 @", "answer 2 0 @", "answer 2 99 @");
        each("none", new String[] {"0", "1", "59", "60", "MAX"}, "STATE", "answer 2 @ 0", "answer 3 @ 11");
        each("not as many", new String[] {"1", "2", "59", "60", "357913942", "536870912", "MAX"}, "NOT", "answer 0 @ 0",
            "answer 0 @ 7", "answer 0 @ 8", "answer 0 @ 11");
        each("not as many", new String[] {"3", "4", "MAX"}, "NOT", "answer 1 @ 0", "answer 1 @ 11");
        search("the empty case", "a?1,2", 0, "answer 0 0 0 = NOT", "go 0 1 = PAUSED", "answer 0 0 0 = NOT",
            "go 0 1 = ANSWERED", "answer 0 0 0 = 1", "answer 0 1 0 = NOT", "go 0 1 = ANSWERED", "answer 0 1 0 = 2",
            "answer 0 2 0 = NOT");
        search("the full one", "a?1,99", 0, "all 0 500 = 60", "answer 0 0 0 = 1", "answer 0 59 0 = 60",
            "answer 0 60 0 = NOT", "answer 0 59 11 = 61");
        Rows.priced(c, "each number", "a:1;b:2;c:3;d:4;e:5;f:6;g:7;h:8;a?9,10;b?10,11", "a+b", 0, "all 0 99 = 4",
            "answer 0 0 : 9 10 3 4 5 6 7 8 2 0 19 12", "answer 0 3 : 10 11 3 4 5 6 7 8 2 2 21 17",
            "answer 0 1 : 9 11 3 4 5 6 7 8 2 1 20 13", "answer 0 2 : 10 10 3 4 5 6 7 8 2 1 20 16");
    }

    /** Promise 10: "DEPTH (what 0), TURNS (1), COST (2), .. left to choose (3), VARIABLES (4 .. 11). BAD; STATE; NOT." */
    private static void open() {
        each("no search", NO_NUMBERS, "BAD", "open @ 0 0", "open @ -1 0", "open @ 0 12", "open @ 99 0");
        each("an i below 0", new String[] {"-1", "-2", "MIN"}, "BAD", "open 0 @ 0", "open 1 @ 11", "open 2 @ 0",
            "open 2 @ 12");
        each("no such number", new String[] {"-1", "12", "13", "256", "MAX", "MIN"}, "BAD", "open 0 0 @", "open 0 1 @",
            "open 1 0 @", "open 2 0 @", "open 2 99 @");
        each("none", new String[] {"0", "1", "29", "30", "MAX"}, "STATE", "open 2 @ 0", "open 3 @ 11");
        each("not as many", new String[] {"1", "2", "29", "30", "31", "32", "357913942", "MAX"}, "NOT", "open 0 @ 0",
            "open 0 @ 3", "open 0 @ 11");
        each("not as many, done", new String[] {"0", "1", "30", "MAX"}, "NOT", "open 1 @ 0", "open 1 @ 11");
        search("the empty case", "a?1,2", 0, "open 0 0 0 = NOT", "go 0 1 = PAUSED", "open 0 0 0 = 0",
            "open 0 1 0 = NOT", "go 0 1 = ANSWERED", "open 0 0 3 = 1", "go 0 1 = ANSWERED", "open 0 0 3 = NOT");
        search("the full one", THIRTY, 0, "go 0 93 = ANSWERED", "open 0 0 0 = 0", "open 0 29 0 = 29", "open 0 29 3 = 1",
            "open 0 30 0 = NOT", "open 0 31 0 = NOT");
        Rows.priced(c, "each number", "a:1;b:2;c:3;d:4;e:5;f:6;g:7;h:8;a?9,10;b?10,14", "a+b", 0, "all 0 11 = 0",
            "open 0 0 : 0 0 3 1 1 2 3 4 5 6 7 8", "open 0 1 : 1 0 11 5 9 2 3 4 5 6 7 8", "all 0 7 = 5",
            "open 0 0 : 1 1 12 5 10 2 3 4 5 6 7 8", "open 0 1 0 = NOT");
        search("how many are left", "a?{1,2,3,4,5,6}", 0, "go 0 1 = PAUSED", "open 0 0 3 = 6", "go 0 1 = ANSWERED",
            "open 0 0 3 = 5", "4x go 0 1 = ANSWERED", "open 0 0 3 = 1", "go 0 1 = ANSWERED", "open 0 0 3 = NOT");
    }

    /** Promise 11: "NOT: none is OPEN, a WAY stands in its midst (or at the begin), or it is done. BAD; STATE." */
    private static void next() {
        each("no search", NO_NUMBERS, "BAD", "next @");
        each("none", new String[] {"2", "3"}, "STATE", "next @");
        search("at the begin", "a?1,2", 0, "next 0 = NOT");
        search("none is open", "a:1", 0, "go 0 1 = ANSWERED", "next 0 = NOT", "of 0 0 = 1");
        search("in its midst", "a?1,2;b:1", 0, "go 0 2 = PAUSED", "of 0 3 = 1", "next 0 = NOT");
        search("in its midst, in a not", "a?1,2;~[b?1,2]", 0, "go 0 4 = PAUSED", "of 0 3 = 1", "next 0 = NOT");
        search("it is done", "a?1,2", 0, "all 0 99 = 2", "next 0 = NOT");
        search("it is done, and something is open", THIRTY + ";b?1,2", 0, "go 0 500 = CROWDED", "of 0 3 = 30",
            "next 0 = NOT");
        search("it is filled, and something is open", "a?1,99", 0, "all 0 500 = 60", "of 0 3 = 1", "next 0 = NOT");
        search("before a taking", "a?1,2", 0, "go 0 1 = PAUSED", "next 0 = 0");
        search("behind an answer", "a?1,2", 0, "go 0 2 = ANSWERED", "next 0 = 0");
        search("a limit deeper, at the begin", "a?1,2", 5, "go 0 1 = PAUSED", "next 0 = NOT", "go 0 1 = PAUSED",
            "next 0 = 0");
        search("it is that one that is taken", "a?1,2;b?1,3", 1, "go 0 3 = PAUSED", "next 0 = 0", "open 0 0 3 = 1",
            "go 0 1 = PAUSED", "of 0 3 = 1", "open 0 0 3 = 3");
    }

    /** Promise 12: "Which ANSWER is the i-th of ORDERED. BAD; STATE; NOT." */
    private static void ordered() {
        each("no search", NO_NUMBERS, "BAD", "ordered @ 0", "ordered @ -1", "ordered @ 99");
        each("an i below 0", new String[] {"-1", "-2", "MIN"}, "BAD", "ordered 0 @", "ordered 1 @", "ordered 2 @");
        each("none", new String[] {"0", "1", "60", "MAX"}, "STATE", "ordered 2 @", "ordered 3 @");
        each("not as many", new String[] {"1", "2", "59", "60", "MAX"}, "NOT", "ordered 0 @");
        each("not as many", new String[] {"3", "4", "60", "MAX"}, "NOT", "ordered 1 @");
        search("the empty case", "a?1,2", 0, "ordered 0 0 = NOT", "go 0 2 = ANSWERED", "ordered 0 0 = 0",
            "ordered 0 1 = NOT");
        Rows.priced(c, "the full one", "a?1,99", "0-a", 0, "all 0 500 = 60", "ordered 0 0 = 59", "ordered 0 59 = 0",
            "ordered 0 60 = NOT", "ordered 0 30 = 29");
        Rows.priced(c, "like ones as they came", "a?{2,1,2,1,2,1}", "a", 0, "all 0 99 = 6", "ordered 0 0 = 1",
            "ordered 0 1 = 3", "ordered 0 2 = 5", "ordered 0 3 = 0", "ordered 0 4 = 2", "ordered 0 5 = 4",
            "ordered 0 6 = NOT");
        Rows.priced(c, "below 0 before 0, no value behind all", "a?{999,0,-999,1}", "a+1-2", 0, "all 0 99 = 4",
            "ordered 0 0 = 1", "ordered 0 1 = 3", "ordered 0 2 = 0", "ordered 0 3 = 2");
    }

    /** Promise 13: "COMMON of two SEARCHES. BAD; STATE." */
    private static void common() {
        each("no search", NO_NUMBERS, "BAD", "common @ 0", "common 0 @", "common @ 2", "common 2 @", "common @ @");
        each("none", new String[] {"2", "3"}, "STATE", "common @ 0", "common 0 @", "common 1 @", "common @ @");
        rows("the empty case", "program 0 a?1,3 = 1", "begin 0 0 0 = 1", "begin 1 0 1 = 1", "common 0 1 = 0",
            "all 0 99 = 3", "common 0 1 = 0", "common 1 0 = 0", "common 1 1 = 0", "common 0 0 = 3", "go 1 9 = ANSWERED",
            "common 0 1 = 1", "common 1 0 = 1", "all 1 99 = 2", "common 0 1 = 3");
        rows("no answer is none of values 0", "program 0 ! = 1", "begin 0 0 0 = 1", "begin 1 0 0 = 1", "go 0 1 = ANSWERED",
            "common 0 0 = 1", "common 0 1 = 0", "common 1 0 = 0", "common 1 1 = 0", "unlike 1 = 0", "go 1 1 = ANSWERED",
            "common 0 1 = 1", "common 1 0 = 1", "begin 0 0 0 = 1", "common 0 1 = 0", "common 1 0 = 0");
        rows("the full one", "program 0 a?{1,1,1,1,1,1};a?{1,1,1,1,1,1};a?{1,1,1,1,1,1} = 3", "begin 0 0 0 = 1",
            "all 0 500 = 60", "copy 0 1 = 60", "common 0 1 = 60", "program 1 a:1 = 1", "begin 2 1 0 = 1",
            "go 2 1 = ANSWERED", "common 0 2 = 60", "common 2 0 = 1", "program 1 a:2 = 1", "begin 2 1 0 = 1",
            "go 2 1 = ANSWERED", "common 0 2 = 0", "common 2 0 = 0");
        for (char v = 'a'; v <= 'h'; v++) {
            rows("by all values, and by these alone", "program 0 " + v + ":1 = 1", "program 1 " + v + ":2 = 1",
                "program 2 " + v + "?1,1;!;! = 3", "begin 0 0 0 = 1", "begin 1 1 0 = 1", "begin 2 2 0 = 1",
                "all 0 9 = 1", "all 1 9 = 1", "all 2 9 = 1", "common 0 1 = 0", "common 0 2 = 1", "common 2 1 = 0");
        }
        rows("each time counted", "program 0 a?{1,1,2,3} = 1", "program 1 a?{1,3,3,3,4} = 1", "begin 0 0 0 = 1",
            "begin 1 1 0 = 1", "all 0 99 = 4", "all 1 99 = 5", "common 0 1 = 3", "common 1 0 = 4");
    }

    /** Promise 14: "How many unlike ANSWERS (by all VALUES) a SEARCH has. BAD; STATE." */
    private static void unlike() {
        each("no search", NO_NUMBERS, "BAD", "unlike @");
        each("none", new String[] {"2", "3"}, "STATE", "unlike @");
        search("the empty case", "a?1,2", 0, "unlike 0 = 0", "go 0 2 = ANSWERED", "unlike 0 = 1");
        search("all unlike", "a?1,99", 0, "all 0 500 = 60", "unlike 0 = 60");
        search("all alike", "a?{1,1,1,1,1,1};a?{1,1,1,1,1,1};a?{1,1,1,1,1,1}", 0, "all 0 500 = 60", "unlike 0 = 1");
        for (char v = 'a'; v <= 'h'; v++) {
            search("by each variable", v + "?{1,2,1,3,2,1}", 0, "all 0 99 = 6", "unlike 0 = 3");
        }
        search("by values alone", "(a:1|b?1,1;b:0;a:1|!)", 0, "all 0 99 = 3", "unlike 0 = 2");
    }

    /** Promise 15: "another one of 0 .. 4 (from one of these): what it was. BAD; STATE: none, or it is 5." */
    private static void turn() {
        each("no search", NO_NUMBERS, "BAD", "turn @ 0", "turn @ 5", "turn @ -1");
        each("no such strategy", new String[] {"-1", "5", "6", "256", "MAX", "MIN"}, "BAD", "turn 0 @", "turn 1 @",
            "turn 2 @", "turn 3 @");
        each("none", new String[] {"0", "1", "2", "3", "4"}, "STATE", "turn 2 @", "turn 3 @");
        for (int strategy = 0; strategy < 5; strategy++) {
            search("it is 5", "a?1,2", 5, "turn 0 " + strategy + " = STATE", "go 0 1 = PAUSED", "of 0 9 = 1",
                "turn 0 " + strategy + " = STATE", "turn 0 5 = BAD", "turn 0 6 = BAD", "all 0 99 = 2",
                "turn 0 " + strategy + " = STATE");
            for (int from = 0; from < 5; from++) {
                search("from each to each", "a?1,2", from, "turn 0 " + strategy + " = " + from, "turn 0 0 = " + strategy,
                    "turn 0 4 = 0", "of 0 : 1 0 0 0 0 0 0 0 0", "of 0 9 = NOT", "turn 0 5 = BAD", "turn 0 3 = 4");
            }
        }
        search("it is done", "a?1,2", 0, "all 0 99 = 2", "turn 0 3 = 0", "turn 0 0 = 3", "of 0 0 = 2");
        search("the next taking is by it", "a?1,2;b?1,2", 0, "go 0 3 = PAUSED", "next 0 = 1", "turn 0 1 = 0",
            "next 0 = 0", "go 0 1 = PAUSED", "of 0 3 = 1", "open 0 0 3 = 2");
        search("the way that stands goes on", "a?1,2;b:1", 0, "go 0 2 = PAUSED", "turn 0 1 = 0", "next 0 = NOT",
            "go 0 1 = ANSWERED", "answer 0 0 : 1 1");
    }

    /** Promise 16: "A SEARCH becomes just as another one is ..: ANSWERS. BAD; STATE: the other one is none." */
    private static void copy() {
        each("no search", NO_NUMBERS, "BAD", "copy @ 0", "copy 0 @", "copy @ 2", "copy 2 @", "copy @ @");
        each("none", new String[] {"2", "3"}, "STATE", "copy @ 0", "copy @ 1", "copy @ 2", "copy @ 3", "copy @ @");
        search("to one that is none", "a?1,3", 0, "go 0 2 = ANSWERED", "copy 0 3 = 1", "of 3 : 1 1 2 1 1 1 1 0 0",
            "count 2 = 2", "all 3 99 = 2", "of 0 1 = 1", "of 0 0 = 1", "all 0 99 = 2", "common 0 3 = 3");
        search("to one that is begun", "a?1,3", 0, "begin 1 0 1 = 1", "all 1 99 = 3", "copy 0 1 = 0",
            "of 1 : 1 0 0 0 0 0 0 0 0", "answer 1 0 0 = NOT", "all 1 99 = 3");
        search("at the begin", "a?1,3", 0, "copy 0 1 = 0", "next 1 = NOT", "all 1 99 = 3", "of 0 2 = 0");
        search("one that is done", "a?1,3", 0, "all 0 99 = 3", "copy 0 1 = 3", "of 1 0 = 2", "go 1 1 = STATE",
            "count 2 = 0", "count 3 = 6");
        search("the full one", THIRTY, 0, "go 0 93 = ANSWERED", "copy 0 2 = 1", "of 2 : 1 1 93 30 30 30 30 0 0",
            "open 2 29 : 29 0 0 1", "open 2 30 0 = NOT", "next 2 = 29", "go 2 1 = ANSWERED", "of 2 3 = 29", "of 0 3 = 30");
        search("sixty answers", "a?1,99", 0, "all 0 500 = 60", "copy 0 1 = 60", "answer 1 59 0 = 60",
            "answer 1 60 0 = NOT", "go 1 1 = STATE");
        search("itself", "a?1,3", 0, "go 0 2 = ANSWERED", "copy 0 0 = 1", "of 0 : 1 1 2 1 1 1 1 0 0", "all 0 99 = 2");
        search("the limit", "a?1,2", 5, "go 0 2 = PAUSED", "copy 0 1 = 0", "of 1 9 = 1", "all 1 99 = 2", "of 0 1 = 0",
            "turn 1 0 = STATE");
        rows("program and cost of then", "program 0 a?1,2 = 1", "cost 0 a+5 = 1", "begin 0 0 3 = 1", "cost 0 a = 1",
            "program 0 b:1 = 1", "copy 0 1 = 0", "all 1 99 = 2", "answer 1 1 10 = 7", "turn 1 0 = 3", "turn 0 4 = 3");
    }

    /** Promise 17: "In thought: how many ANSWERS .. behind a BUDGET (1 .. 500), .. if it isn't done .." */
    private static void would() {
        each("no search", NO_NUMBERS, "BAD", "would @ 1 0", "would @ 0 0", "would @ 1 3");
        each("no budget", new String[] {"0", "-1", "501", "502", "2000", "MAX", "MIN"}, "BAD", "would 0 @ 0",
            "would 1 @ 1", "would 2 @ 2", "would 3 @ 0");
        each("no such number", new String[] {"-1", "3", "4", "256", "MAX", "MIN"}, "BAD", "would 0 1 @", "would 1 500 @",
            "would 2 1 @", "would 3 0 @");
        each("none", new String[] {"1", "500"}, "STATE", "would 2 @ 0", "would 3 @ 0", "would 2 @ 1", "would 2 @ 2");
        search("the least budget", LONG, 0, "would 0 1 2 = 1", "of 0 2 = 0");
        search("the most", LONG, 0, "would 0 500 2 = 500", "would 0 500 1 = 0", "would 0 500 0 = 0", "of 0 2 = 0",
            "go 0 1 = PAUSED", "would 0 500 2 = 501");
        search("just as much as it needs", "a?1,2;b:1", 0, "would 0 5 1 = 1", "would 0 4 1 = 0", "would 0 5 0 = 2",
            "would 0 4 0 = 1", "would 0 3 0 = 1", "would 0 2 0 = 0", "would 0 5 2 = 5", "would 0 6 2 = 5",
            "would 0 4 2 = 4", "of 0 : 1 0 0 0 0 0 0 0 0");
        search("it is done", "a?1,2;b:1", 0, "all 0 99 = 2", "would 0 1 0 = 2", "would 0 1 1 = 1", "would 0 1 2 = 5",
            "would 0 500 0 = 2");
        search("with those that came", "a?1,3", 0, "go 0 2 = ANSWERED", "would 0 1 0 = 2", "would 0 1 2 = 3",
            "would 0 2 0 = 3", "would 0 2 1 = 1", "of 0 1 = 1", "next 0 = 0");
        search("in the midst of a not", "a?1,2;~[b?1,2;b=3]", 0, "go 0 5 = PAUSED", "would 0 500 0 = 2",
            "would 0 500 2 = 15", "of 0 2 = 5", "next 0 = NOT", "all 0 99 = 2");
        search("deeper", "a?1,2", 5, "would 0 500 0 = 2", "of 0 9 = 0", "would 0 1 2 = 1", "go 0 1 = PAUSED",
            "would 0 3 1 = 1");
        for (int s = 0; s < 4; s++) {
            rows("of each", "program 0 a?1,3 = 1", "begin " + s + " 0 0 = 1", "would " + s + " 3 0 = 2",
                "of " + s + " 1 = 0", "count 3 = 0");
        }
    }

    /** Promise 18: "0 PROGRAMS, 1 bytes of THE TAPE, 2 SEARCHES that are not done, 3 ANSWERS of all. BAD." */
    private static void count() {
        each("no such number", new String[] {"-1", "4", "5", "256", "MAX", "MIN"}, "BAD", "count @");
        rows("programs", "count 0 = 0", "program 3 ! = 1", "count 0 = 1", "program 0 ! = 1", "count 0 = 2",
            "program 1 ! = 1", "count 0 = 3", "program 2 ! = 1", "count 0 = 4", "program 2 !;! = 2", "count 0 = 4",
            "program 2 = -100", "count 0 = 4");
        rows("bytes", "count 1 = 0", "text a", "count 1 = 1", "text " + "b".repeat(149), "count 1 = 150",
            "feed 97 = NOT", "count 1 = 150", "program 0 = -101", "count 1 = 0");
        rows("searches that are not done", "program 0 a?1,2 = 1", "count 2 = 0", "begin 0 0 0 = 1", "count 2 = 1",
            "begin 1 0 0 = 1", "begin 2 0 0 = 1", "begin 3 0 0 = 1", "count 2 = 4", "go 3 1 = PAUSED", "count 2 = 4",
            "all 3 99 = 2", "count 2 = 3", "go 2 2 = ANSWERED", "go 2 1 = ANSWERED", "count 2 = 3", "go 2 1 = DONE",
            "count 2 = 2", "begin 3 0 0 = 1", "count 2 = 3", "copy 2 3 = 2", "count 2 = 2");
        rows("answers of all", "program 0 a?1,99 = 1", "begin 0 0 0 = 1", "count 3 = 0", "go 0 2 = ANSWERED",
            "count 3 = 1", "all 0 500 = 59", "count 3 = 60", "copy 0 1 = 60", "copy 0 2 = 60", "copy 0 3 = 60",
            "count 3 = 240", "begin 3 0 0 = 1", "count 3 = 180", "would 3 500 0 = 60", "count 3 = 180");
        search("searches that are crowded or filled are done", THIRTY + ";b?1,2", 0, "count 2 = 1", "go 0 500 = CROWDED",
            "count 2 = 0");
        search("searches that are filled are done", "a?1,99", 0, "all 0 500 = 60", "count 2 = 0");
    }

    /** What a SEARCH that is done answers to each call. */
    private static void allDone() {
        String[][] ends = {{"1=2", "2", "DONE"}, {THIRTY + ";b?1,2", "500", "CROWDED"}};
        for (String[] end : ends) {
            search("done", end[0], 0, "go 0 " + end[1] + " = " + end[2], "of 0 0 = 2", "go 0 1 = STATE",
                "go 0 500 = STATE", "all 0 1 = STATE", "all 0 2000 = STATE", "next 0 = NOT", "answer 0 0 0 = NOT",
                "ordered 0 0 = NOT", "unlike 0 = 0", "common 0 0 = 0", "would 0 1 0 = 0", "would 0 1 1 = 1",
                "turn 0 1 = 0", "copy 0 1 = 0", "go 1 1 = STATE", "count 2 = 0", "begin 0 0 0 = 1", "of 0 0 = 1");
        }
    }
}
