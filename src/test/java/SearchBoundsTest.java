/** Parts 2 and 3 of the document's terms: how a search goes at its bounds, sentence by sentence. */
public final class SearchBoundsTest {
    private static final Checks c = new Checks("SearchBoundsTest");
    /** Thirty CHOICE POINTS that stay OPEN, in 93 STEPS. */
    private static final String THIRTY = "3*(9*(a?0,1));3*(a?0,1)";
    /** Twenty-nine, in 90 STEPS. */
    private static final String LESS_ONE = "3*(9*(a?0,1));2*(a?0,1)";
    /** Fifteen, in 48 STEPS. */
    private static final String FIFTEEN = "3*(5*(a?0,1))";

    public static void main(String[] args) {
        values();
        partsThatAreNoValues();
        costsThatAreNoValues();
        steps();
        signs();
        upTo();
        amongAndWays();
        depthAndTurns();
        nothingToCut();
        cutReaches();
        cutOfThisWay();
        cutBesidesOthers();
        cutSinceItsOwnBegin();
        once();
        not();
        cutInNot();
        thirtyFirstOfNot();
        whatNotsDoNotCount();
        strategies();
        likeCosts();
        likeTurns();
        deeper();
        deeperAnswers();
        deeperEnds();
        budgetNoneLeft();
        budgetNoneLeftInNot();
        noStepNeeded();
        nothingOpen();
        thirtyFirstOpen();
        sixtyFirstAnswer();
        undone();
        copiesInTheMidst();
        sideBySide();
        c.end();
    }

    private static void search(String title, String text, int strategy, String... rows) {
        Rows.search(c, title, text, strategy, rows);
    }

    private static void priced(String title, String text, String cost, int strategy, String... rows) {
        Rows.priced(c, title, text, cost, strategy, rows);
    }

    /** "VARIABLES a .. h have VALUES -999 .. 999 (0 at first)" */
    private static void values() {
        search("0 at first", "1=1", 0, "go 0 1 = ANSWERED", "answer 0 0 : 0 0 0 0 0 0 0 0 0 0 0 1");
        search("999 is one", "a:999;b:998+1;c:333*3;d:500+499;e:--999;f:999*1;g:-999*-1;h:1-1+999", 0,
            "go 0 8 = ANSWERED", "answer 0 0 : 999 999 999 999 999 999 999 999");
        search("-999 is one", "a:-999;b:-998-1;c:-333*3;d:0-999;e:---999;f:999*-1;g:-999*1;h:-a-999-999", 0,
            "go 0 8 = ANSWERED", "answer 0 0 : -999 -999 -999 -999 -999 -999 -999 -999");
        search("999 in each place", "a?999,999;b?{999};a=b;~[a#999];999=a", 0, "go 0 9 = ANSWERED",
            "answer 0 0 : 999 999 0 0 0 0 0 0");
        search("-999 in each place", "a?-999,-999;b?{-999};a=b;~[a#-999];-999=a", 0, "go 0 9 = ANSWERED",
            "answer 0 0 : -999 -999 0 0 0 0 0 0");
        search("0, negative or not", "a:-0;b:--0;c:0*-1;d:-a;e:5;e:-0+e*-0;0=-0", 0, "go 0 7 = ANSWERED",
            "answer 0 0 : 0 0 0 0 0 0 0 0");
        search("0 times what is one", "a:0*999*999;b:0*500*2;c:999-999+999-999", 0, "go 0 3 = ANSWERED",
            "answer 0 0 : 0 0 0 0");
    }

    /** "An E of which any part isn't a VALUE: the WAY fails." */
    private static void partsThatAreNoValues() {
        String[] none = {"999+1", "998+2", "-999-1", "-998-2", "1+999", "-1-999", "250*4", "-250*4", "500*2",
            "999*999", "-999*999", "999*999*999", "999*999*999*999", "999+1-1", "-999-1+1", "1+999-999", "500*2-1",
            "-500*2+1", "500*2*0", "1+500*2", "0*1+500*2", "1-500*2-1", "1+1+999*2", "h+999+1", "500+500", "-500-500"};
        for (String e : none) {
            fails("b:" + e);
            fails("h:" + e);
            for (char sign : new char[] {'<', '=', '>', '#'}) {
                fails(e + sign + "0");
                fails("0" + sign + e);
            }
            fails("b?" + e + ",999");
            fails("b?-999," + e);
            fails("b?{" + e + "}");
            fails("b?{" + e + ",1}");
            fails("b?{1," + e + ",1}");
            fails("b?{1,1,1,1,1," + e + "}");
            search("a way in a not fails", "~[b:" + e + "]", 0, "go 0 2 = ANSWERED", "of 0 2 = 2");
        }
        fails("0<999+1-1");
        fails("999+1-1=999");
        search("by values that it has", "a?997,999;b:a+1;b:b+1", 0, "all 0 99 = 1", "answer 0 0 : 997 999");
        search("by values that it has", "a?-999,-997;b:a-1;b:b-1", 0, "all 0 99 = 1", "answer 0 0 : -997 -999");
        search("by values that it has", "a:500;b?1,3;a*b<999", 0, "all 0 99 = 1", "answer 0 0 : 500 1");
    }

    /** The first S ends the WAY: it was a STEP, and nothing else came of it. */
    private static void fails(String text) {
        search("the way fails", text, 0, "go 0 1 = DONE", "of 0 : 2 0 1 0 0 0 0 0 0", "open 0 0 0 = NOT");
    }

    /** "COST: .. 999999, if any part of it isn't a VALUE" */
    private static void costsThatAreNoValues() {
        String[] costs = {"a", "-a", "a+1", "-a-1", "a+1-1", "a*2", "a*2*0", "a-1+1", "a*1", "0*a*2"};
        int[] due = {999, -999, 999999, 999999, 999999, 999999, 999999, 999, 999, 0};
        for (int i = 0; i < costs.length; i++) {
            priced("of 999", "a:999;b?1,1", costs[i], i % 6, "go 0 9 = ANSWERED", "answer 0 0 10 = " + due[i]);
            priced("of 999, open", "a:999;b?1,1", costs[i], i % 5, "go 0 2 = PAUSED", "open 0 0 2 = " + due[i],
                "next 0 = 0");
        }
        priced("the last in order", "a?{999,998,999,-999}", "a+1", 0, "all 0 9 = 4", "ordered 0 0 = 3",
            "ordered 0 1 = 1", "ordered 0 2 = 0", "ordered 0 3 = 2", "ordered 0 4 = NOT", "answer 0 1 10 = 999");
        priced("the last to be taken", "(a:999|a:998);b?1,1", "a+1", 1, "go 0 7 = PAUSED", "of 0 3 = 2",
            "open 0 0 2 = 999999", "open 0 1 2 = 999", "turn 0 2 = 1", "next 0 = 1", "turn 0 3 = 2", "next 0 = 1");
        priced("the last to be taken", "(a:998|a:999);b?1,1", "a+1", 1, "go 0 7 = PAUSED", "of 0 3 = 2",
            "open 0 0 2 = 999", "open 0 1 2 = 999999", "turn 0 2 = 1", "next 0 = 0", "turn 0 3 = 2", "next 0 = 0");
        priced("like ones, none a value", "(a:998|a:999);b?1,1", "a+2", 1, "go 0 7 = PAUSED", "of 0 3 = 2",
            "turn 0 2 = 1", "next 0 = 0", "turn 0 3 = 2", "next 0 = 1");
    }

    /** "A STEP: each S that is begun; each further round of TIMES; each choice that is TAKEN." */
    private static void steps() {
        comesBy("a:1", 1);
        comesBy("1=1", 1);
        comesBy("!", 1);
        comesBy("a:1;1=1;!", 3);
        comesBy("a?1,2", 2);
        comesBy("a?{5}", 2);
        comesBy("(!)", 3);
        comesBy("(!|a:1)", 3);
        comesBy("(((!)))", 7);
        comesBy("[!]", 2);
        comesBy("[a?1,2]", 3);
        comesBy("[[[[!]]]]", 5);
        comesBy("1*(!)", 2);
        comesBy("2*(!)", 4);
        comesBy("9*(!)", 18);
        comesBy("2*(2*(!))", 10);
        comesBy("2*([!])", 6);
        comesBy("~[a=1]", 2);
        comesBy("~[~[!]]", 3);
        comesBy("~[a?1,2;a=3]", 6);
        comesBy("~[a?1,2;!;a=3]", 5);
        comesBy("~[(1=2|1=2)]", 6);
        comesBy("~[2*(a:a+1);a=3]", 6);
        comesBy("a?1,2;a=2", 5);
        comesBy("a?1,2;!;b?1,1", 5);
    }

    /** The first ANSWER needs just so many STEPS, in one go, in two, or one by one. */
    private static void comesBy(String text, int steps) {
        for (int strategy = 0; strategy < 5; strategy++) {
            search("in one go", text, strategy, "go 0 " + steps + " = ANSWERED", "of 0 1 = 1", "of 0 2 = " + steps,
                "answer 0 0 11 = " + steps);
            for (int less = 1; less < steps; less++) {
                search("in two", text, strategy, "go 0 " + less + " = PAUSED", "of 0 0 = 1", "of 0 1 = 0",
                    "of 0 2 = " + less, "go 0 " + (steps - less) + " = ANSWERED", "of 0 2 = " + steps);
            }
            if (steps > 1) {
                search("one by one", text, strategy, steps - 1 + "x go 0 1 = PAUSED", "go 0 1 = ANSWERED",
                    "answer 0 0 11 = " + steps);
            }
        }
    }

    /** "one of < = > # (unlike)", "the WAY fails, if it isn't so" */
    private static void signs() {
        String[] pairs = {"1@2", "2@2", "3@2", "-1@0", "0@0", "0@-1", "-999@999", "999@999", "999@-999", "-5@-4", "-4@-5"};
        int[] sides = {-1, 0, 1, -1, 0, 1, -1, 0, 1, -1, 1};
        for (int i = 0; i < pairs.length; i++) {
            for (char sign : new char[] {'<', '=', '>', '#'}) {
                boolean so = sign == '<' ? sides[i] < 0 : sign == '>' ? sides[i] > 0 : sides[i] == 0 == (sign == '=');
                search(so ? "it is so" : "it isn't so", pairs[i].replace('@', sign), 0,
                    so ? "go 0 1 = ANSWERED" : "go 0 1 = DONE");
            }
        }
        search("by values", "a?1,3;b?1,3;a<b;a#2", 0, "all 0 99 = 2", "answer 0 0 : 1 2", "answer 0 1 : 1 3");
    }

    /** "up to: from the first up to the second", "with no values the WAY fails" */
    private static void upTo() {
        search("the first is the second", "a?5,5", 0, "go 0 1 = PAUSED", "open 0 0 3 = 1", "of 0 5 = 1",
            "go 0 1 = ANSWERED", "answer 0 0 0 = 5", "go 0 1 = DONE");
        search("one more", "a?5,6", 0, "go 0 1 = PAUSED", "open 0 0 3 = 2", "all 0 9 = 2", "answer 0 0 0 = 5",
            "answer 0 1 0 = 6");
        search("negative ones", "a?-2,1", 0, "all 0 9 = 4", "answer 0 0 0 = -2", "answer 0 3 0 = 1");
        search("the most", "a?-999,999", 0, "go 0 1 = PAUSED", "open 0 0 3 = 1999", "go 0 1 = ANSWERED",
            "answer 0 0 0 = -999");
        search("the last of the most", "a?-999,999;a=999", 0, "all 0 2000 = 0", "all 0 1999 = 1", "of 0 0 = 2",
            "answer 0 0 0 = 999", "answer 0 0 11 = 3999");
        fails("a?6,5");
        fails("a?1,0");
        fails("a?0,-1");
        fails("a?999,-999");
        fails("a?-998,-999");
        for (int strategy = 1; strategy <= 5; strategy++) {
            search("no values", "a?6,5", strategy, "go 0 1 = DONE", "of 0 5 = 0");
        }
        search("no values for one, some for another", "a?1,3;b?a,2", 0, "all 0 99 = 3", "answer 0 0 : 1 1",
            "answer 0 1 : 1 2", "answer 0 2 : 2 2", "of 0 5 = 3");
    }

    /** "all values in order", "all P's": one and six are seen to in the tests of texts. */
    private static void amongAndWays() {
        search("values as the E's are at it", "a:3;b?{a,a*2,-a};a:b", 0, "all 0 99 = 3", "answer 0 0 : 3 3",
            "answer 0 1 : 6 6", "answer 0 2 : -3 -3");
        search("like values are values, too", "a?{2,2}", 0, "all 0 9 = 2", "of 0 2 = 3", "answer 0 1 9 = 1");
        search("one P", "(a:1);b:2", 0, "go 0 1 = PAUSED", "of 0 5 = 1", "open 0 0 3 = 1", "go 0 9 = ANSWERED",
            "answer 0 0 : 1 2 0 0 0 0 0 0 1 0", "go 0 1 = DONE");
        search("from values as they were", "a:1;(a:a+1;b:1|c:a)", 0, "all 0 9 = 2", "answer 0 0 : 2 1 0",
            "answer 0 1 : 1 0 1");
        search("what is left to choose", "(a:1|a:2|a:3)", 0, "go 0 1 = PAUSED", "open 0 0 3 = 3", "go 0 2 = ANSWERED",
            "open 0 0 3 = 2", "go 0 2 = ANSWERED", "open 0 0 3 = 1", "go 0 2 = ANSWERED", "open 0 0 3 = NOT",
            "go 0 2 = DONE");
    }

    /** "DEPTH: how many these are; TURNS: at how many of them it took not the first choice." */
    private static void depthAndTurns() {
        search("none", "!", 0, "go 0 1 = ANSWERED", "answer 0 0 8 = 0", "answer 0 0 9 = 0");
        search("the first choice is no turn", "a?1,3", 0, "all 0 9 = 3", "answer 0 0 8 = 1", "answer 0 0 9 = 0",
            "answer 0 1 8 = 1", "answer 0 1 9 = 1", "answer 0 2 8 = 1", "answer 0 2 9 = 1");
        search("of a choice point", "a?1,2;b?1,2;c?1,2", 0, "go 0 5 = PAUSED", "open 0 0 : 0 0 0 1", "open 0 1 : 1 0 0 1",
            "open 0 2 : 2 0 0 2", "all 0 99 = 8", "answer 0 7 8 = 3", "answer 0 7 9 = 3", "answer 0 6 9 = 2");
        search("turns of a choice point", "a?1,2;b?1,2;c?1,2", 0, "all 0 14 = 4", "of 0 3 = 1", "all 0 1 = 0",
            "open 0 0 : 1 1 0 1", "open 0 1 : 2 1 0 2", "all 0 4 = 2", "open 0 0 : 2 2 0 2");
        search("those with nothing left count on", "a?1,1;b?1,2;c?1,1", 0, "all 0 99 = 2", "answer 0 0 8 = 3",
            "answer 0 1 8 = 3", "answer 0 1 9 = 1");
        search("those that are cut count on", "a?1,2;b?1,2;b=2;!;c?1,2", 0, "all 0 99 = 2", "answer 0 0 8 = 3",
            "answer 0 0 9 = 1", "answer 0 1 9 = 2", "of 0 7 = 1");
        search("those of a not don't", "~[a?1,2;a=2;a=1];b?1,2", 0, "all 0 99 = 2", "answer 0 1 8 = 1",
            "answer 0 1 9 = 1");
    }

    /** "CUT: of the CHOICE POINTS that this very WAY came through ..: nothing is left." */
    private static void nothingToCut() {
        search("none at all", "!", 0, "go 0 1 = ANSWERED", "of 0 7 = 0");
        search("one", "a?1,2;!", 0, "go 0 3 = ANSWERED", "of 0 7 = 1", "of 0 3 = 0", "go 0 1 = DONE", "of 0 1 = 1");
        search("one with nothing left", "a?1,1;!", 0, "go 0 3 = ANSWERED", "of 0 7 = 0", "go 0 1 = DONE");
        search("one whose last was taken", "a?1,2;a=2;!", 0, "go 0 99 = ANSWERED", "of 0 7 = 0", "go 0 1 = DONE");
        search("one that was cut already", "a?1,2;!;!", 0, "go 0 99 = ANSWERED", "of 0 7 = 1", "go 0 1 = DONE");
        search("all three", "a?1,2;b?1,3;c?1,4;!", 0, "go 0 6 = PAUSED", "of 0 3 = 3", "of 0 7 = 0",
            "go 0 1 = ANSWERED", "of 0 3 = 0", "of 0 7 = 3", "go 0 1 = DONE");
        search("thirty", THIRTY + ";!", 0, "go 0 93 = PAUSED", "of 0 3 = 30", "go 0 1 = ANSWERED", "of 0 7 = 30",
            "of 0 3 = 0", "go 0 1 = DONE");
    }

    /** "since the innermost P of a ( ), round of TIMES, or [ ] around the CUT was begun" */
    private static void cutReaches() {
        search("the one of the ( ) is older than its P", "(!|a:1)", 0, "all 0 99 = 2", "of 0 7 = 0");
        search("of a P", "(a?1,2;!|a:3)", 0, "all 0 99 = 2", "of 0 7 = 1", "answer 0 1 0 = 3");
        search("of the last P", "(a:1|a?2,3;!)", 0, "all 0 99 = 2", "of 0 7 = 1", "answer 0 1 0 = 2");
        search("before the P", "a?1,2;(!|b:1)", 0, "all 0 99 = 4", "of 0 7 = 0");
        search("before the round", "a?1,2;1*(!)", 0, "all 0 99 = 2", "of 0 7 = 0");
        search("of a round", "2*(a?1,2;!)", 0, "all 0 99 = 1", "of 0 7 = 2");
        search("of the round before", "2*(!;a?1,2)", 0, "all 0 99 = 4", "of 0 7 = 0");
        search("before the [ ]", "a?1,2;[!]", 0, "all 0 99 = 2", "of 0 7 = 0");
        search("of a [ ]", "[a?1,2;!;b?1,2]", 0, "go 0 4 = PAUSED", "of 0 7 = 1", "go 0 2 = ANSWERED", "of 0 7 = 2",
            "go 0 1 = DONE");
        search("the innermost: ( )", "[a?1,2;(!|b:1);a=2]", 0, "all 0 99 = 1", "answer 0 0 : 2 0");
        search("the innermost: round", "(a?1,2;1*(!);a=2)", 0, "all 0 99 = 1", "of 0 7 = 0");
        search("the innermost: [ ]", "1*(a?1,2;[b?1,2;!;b=1];a=2)", 0, "all 0 99 = 1", "of 0 7 = 2");
        search("behind a P", "(a?1,2|a:3);!", 0, "all 0 99 = 1", "of 0 7 = 2");
        search("behind a round", "1*(a?1,2);!", 0, "all 0 99 = 1", "of 0 7 = 1");
        search("behind two rounds", "2*(a?1,2);!", 0, "all 0 99 = 1", "of 0 7 = 2");
        search("behind a [ ]", "a?1,2;[b?1,2];!", 0, "all 0 99 = 1", "of 0 7 = 2");
        search("behind a bracket in a bracket", "a?1,2;(b?1,2;(c?1,2);!|b:3)", 0, "all 0 99 = 4", "of 0 7 = 4");
        search("six brackets", "a?1,2;((((((b?1,2;!))))))", 0, "all 0 99 = 2", "of 0 7 = 2");
        search("no bracket: since the program was", "a?1,2;(b?1,2|!);!", 0, "all 0 99 = 1", "of 0 7 = 3");
    }

    /** "that this very WAY came through": what other ways came through stays. */
    private static void cutOfThisWay() {
        search("the other one stays", "a?1,2;b?1,2;!", 1, "go 0 7 = ANSWERED", "of 0 3 = 1", "of 0 7 = 1",
            "open 0 0 4 = 2", "go 0 9 = ANSWERED", "of 0 7 = 2", "go 0 1 = DONE", "of 0 1 = 2");
        search("three in breadth", "a?1,3;b?1,2;!", 1, "go 0 9 = ANSWERED", "of 0 3 = 2", "of 0 7 = 1",
            "open 0 0 4 = 2", "open 0 1 4 = 3", "go 0 2 = ANSWERED", "of 0 3 = 1", "of 0 7 = 2", "open 0 0 4 = 3");
        search("what the way came through goes, older or not", "a?1,2;b?1,2;!", 0, "go 0 5 = ANSWERED",
            "of 0 3 = 0", "of 0 7 = 2", "go 0 1 = DONE");
    }

    /** What ways came through is known, too, when older ones, that have nothing left, went meanwhile. */
    private static void cutBesidesOthers() {
        search("the oldest has nothing left", "a?1,3;b?1,2;!", 1, "go 0 7 = PAUSED", "of 0 3 = 3", "turn 0 0 = 1",
            "go 0 2 = ANSWERED", "of 0 3 = 2", "of 0 7 = 1", "go 0 2 = ANSWERED", "of 0 3 = 1", "of 0 7 = 2",
            "open 0 0 4 = 1", "go 0 2 = ANSWERED", "of 0 7 = 3", "go 0 1 = DONE");
        priced("the oldest has nothing left, the next ones have", "a?1,2;b?1,2;c?1,2;!", "0-b", 0, "go 0 5 = PAUSED",
            "turn 0 1 = 0", "go 0 2 = PAUSED", "of 0 3 = 3", "turn 0 2 = 1", "next 0 = 1", "go 0 2 = ANSWERED",
            "of 0 7 = 2", "of 0 3 = 1", "open 0 0 : 1 1 0 2 2");
        priced("one amidst has nothing left", "a?1,2;b?1,2;c?1,2;d?1,2;!", "b-a", 0, "go 0 7 = PAUSED", "of 0 3 = 4",
            "turn 0 2 = 0", "next 0 = 1", "go 0 2 = PAUSED", "of 0 3 = 4", "turn 0 4 = 2", "next 0 = 2",
            "go 0 2 = ANSWERED", "of 0 7 = 3", "of 0 3 = 1", "open 0 0 : 2 1 1 2 1 2");
    }

    /** "since .. was begun (by this WAY; ..)": other ways begin the same bracket at another DEPTH. */
    private static void cutSinceItsOwnBegin() {
        String text = "(a:1|b?1,2);(c?1,2;!)";
        search("a ( ) of unlike depths", text, 1, "go 0 12 = PAUSED", "of 0 3 = 3", "turn 0 0 = 1", "go 0 2 = PAUSED",
            "open 0 2 0 = 3", "turn 0 1 = 0", "next 0 = 0", "go 0 2 = ANSWERED", "of 0 7 = 1", "of 0 3 = 2");
        search("the sixth ( ) of unlike depths", "1*(1*(1*(1*(1*(" + text + ")))))", 1, "go 0 17 = PAUSED", "of 0 3 = 3",
            "turn 0 0 = 1", "go 0 2 = PAUSED", "open 0 2 0 = 3", "turn 0 1 = 0", "go 0 2 = ANSWERED", "of 0 7 = 1");
        search("a once of unlike depths", "(a:1|b?1,2);[c?1,2]", 1, "go 0 7 = PAUSED", "turn 0 0 = 1",
            "go 0 3 = PAUSED", "of 0 3 = 3", "turn 0 1 = 0", "next 0 = 0", "go 0 1 = ANSWERED", "of 0 7 = 1",
            "of 0 3 = 2", "all 0 99 = 2", "of 0 7 = 3");
        search("rounds that are left, six brackets deep", "1*(1*(1*(1*(1*(2*(a?1,2;b:b*3+a))))));b=8", 0, "all 0 500 = 1",
            "answer 0 0 : 2 8", "of 0 6 = 6");
        search("rounds that are left, breadth first", "3*(a?1,2;b:b*3+a)", 1, "all 0 500 = 8", "answer 0 0 : 1 13",
            "answer 0 1 : 2 14", "answer 0 6 : 1 25", "answer 0 7 : 2 26");
    }

    /** "ONCE: when its P is gone through, the same for those since it was begun." */
    private static void once() {
        search("nothing in it", "a?1,2;[b:1]", 0, "all 0 99 = 2", "of 0 7 = 0");
        search("one with nothing left", "[a?1,1]", 0, "go 0 3 = ANSWERED", "of 0 7 = 0", "go 0 1 = DONE");
        search("one", "[a?1,2]", 0, "go 0 3 = ANSWERED", "of 0 7 = 1", "go 0 1 = DONE");
        search("three", "[a?1,2;b?1,2;(c:1|c:2)]", 0, "go 0 99 = ANSWERED", "of 0 7 = 3", "go 0 1 = DONE");
        search("before its begin", "a?1,2;[b?1,2]", 0, "all 0 99 = 2", "of 0 7 = 2", "answer 0 1 : 2 1");
        search("only when it is gone through", "[a?1,3;a=2]", 0, "go 0 5 = PAUSED", "of 0 7 = 0", "go 0 1 = ANSWERED",
            "of 0 7 = 1", "go 0 1 = DONE");
        search("its last", "[a?1,2;a=2]", 0, "go 0 99 = ANSWERED", "of 0 7 = 0", "go 0 1 = DONE");
        search("never gone through", "[a?1,2;a=3]", 0, "go 0 99 = DONE", "of 0 7 = 0");
        search("what comes behind it", "[a?1,2];b?1,2", 0, "all 0 99 = 2", "of 0 7 = 1");
        search("one in another", "[a?1,2;[b?1,2];b=a]", 0, "all 0 99 = 1", "of 0 7 = 2");
        search("another way's stays", "a?1,2;[b?1,2]", 1, "go 0 8 = ANSWERED", "of 0 3 = 1", "of 0 7 = 1",
            "go 0 1 = ANSWERED", "of 0 3 = 0", "of 0 7 = 2");
    }

    /** "NOT: its P is searched by itself, ..; if it has an ANSWER, the WAY fails; else the WAY goes on" */
    private static void not() {
        search("it has an answer", "~[!]", 0, "go 0 2 = DONE", "of 0 : 2 0 2 0 0 0 0 0 0");
        search("it has none", "~[1=2]", 0, "go 0 2 = ANSWERED", "of 0 : 1 1 2 0 0 0 0 0 0");
        search("its last choice has one", "~[a?1,3;a=3]", 0, "go 0 8 = DONE", "of 0 : 2 0 8 0 0 0 0 0 0");
        search("values as they were", "a:1;~[a:2;b:3;a=1];c:a", 0, "go 0 9 = ANSWERED", "answer 0 0 : 1 0 1");
        search("from values as they are", "a:1;~[a=1]", 0, "go 0 9 = DONE");
        search("nobody else counts its own", "~[a?1,9;b?1,9;a+b=19]", 0, "all 0 500 = 1",
            "of 0 : 2 1 182 0 0 0 0 0 0", "answer 0 0 8 = 0", "answer 0 0 9 = 0");
        for (int strategy = 0; strategy < 6; strategy++) {
            priced("the youngest is taken by any strategy", "~[a?1,2;b?1,2;b=2]", "9-b", strategy, "go 0 8 = DONE",
                "of 0 2 = 8");
        }
        search("six in one another", "~[~[~[~[~[~[!]]]]]]", 0, "go 0 7 = ANSWERED", "of 0 2 = 7", "go 0 1 = DONE");
        search("six in one another, none in the last", "~[~[~[~[~[~[1=2]]]]]]", 0, "go 0 7 = DONE", "of 0 2 = 7");
        search("five in one another", "~[~[~[~[~[!]]]]]", 0, "go 0 6 = DONE", "of 0 2 = 6");
    }

    /** "a CUT outside of all brackets in it reaches to its begin" */
    private static void cutInNot() {
        search("to its begin", "~[a?1,2;b?1,2;!;a+b=4]", 0, "go 0 7 = ANSWERED", "of 0 7 = 0");
        search("not before it", "a?1,2;~[b?1,2;!;b=2]", 0, "all 0 99 = 2", "of 0 7 = 0");
        search("not before it, from the begin of its own bracket on", "(a?1,2;~[!;1=2]|a:3)", 0, "all 0 99 = 3",
            "of 0 7 = 0");
        search("within brackets it does not", "~[b?1,2;(!|1=2);b=2]", 0, "go 0 99 = DONE");
        search("within a round it does not", "~[b?1,2;1*(!);b=2]", 0, "go 0 99 = DONE");
        search("within a [ ] it does not", "~[b?1,2;[!];b=2]", 0, "go 0 99 = DONE");
        search("within a not in it, to that one's begin", "~[b?1,2;~[!;1=2];b=2]", 0, "go 0 99 = DONE");
        search("behind brackets it does", "~[(b?1,2|b:3);!;b#1]", 0, "go 0 99 = ANSWERED", "of 0 7 = 0");
    }

    /** "one that would be the 31st with something left of this NOT .. isn't made, its S is a STEP" */
    private static void thirtyFirstOfNot() {
        search("thirty", "~[" + THIRTY + ";1=1]", 0, "go 0 500 = DONE", "of 0 : 2 0 95 0 0 0 0 0 0");
        search("a 31st", "~[" + THIRTY + ";b?0,1]", 0, "go 0 500 = CROWDED", "of 0 : 2 0 95 0 0 0 0 0 0",
            "go 0 500 = STATE");
        search("a 31st of one value", "~[" + THIRTY + ";b?0,0]", 0, "go 0 500 = CROWDED", "of 0 2 = 95");
        search("a 31st of ways", "~[" + THIRTY + ";(!)]", 0, "go 0 500 = CROWDED", "of 0 2 = 95");
        search("a 31st of no values", "~[" + THIRTY + ";b?1,0]", 0, "go 0 500 = PAUSED", "of 0 0 = 1");
        search("by the last step of the budget", "~[" + THIRTY + ";b?0,1]", 0, "go 0 94 = PAUSED", "of 0 0 = 1",
            "go 0 1 = CROWDED", "of 0 2 = 95");
        search("by all", "c?1,2;~[" + THIRTY + ";b?0,1]", 0, "all 0 500 = 0", "of 0 : 2 0 97 1 1 1 1 0 0",
            "all 0 500 = STATE", "next 0 = NOT", "open 0 0 3 = 1", "would 0 1 1 = 1", "would 0 1 2 = 97");
        search("thirty of both", "~[" + FIFTEEN + ";~[" + FIFTEEN + "]]", 0, "go 0 500 = PAUSED", "of 0 0 = 1");
        search("a 31st of both", "~[" + FIFTEEN + ";~[" + FIFTEEN + ";b?0,1]]", 0, "go 0 500 = CROWDED",
            "of 0 : 2 0 99 0 0 0 0 0 0");
        search("a 31st, 29 of the outer one", "~[3*(9*(a?0,1));2*(a?0,1);~[b?0,1;c?0,1]]", 0, "go 0 500 = CROWDED");
        search("a 31st of three", "~[9*(a?0,1);~[9*(a?0,1);~[9*(a?0,1);3*(a?0,1);a?0,1]]]", 0, "go 0 500 = CROWDED");
        search("thirty of three", "~[9*(a?0,1);~[9*(a?0,1);~[9*(a?0,1);3*(a?0,1)]]]", 0, "go 0 500 = PAUSED");
        for (int strategy = 1; strategy < 6; strategy++) {
            search("by each strategy", "~[" + THIRTY + ";b?0,1]", strategy, "go 0 500 = CROWDED");
        }
    }

    /** "with something left of this NOT and the NOTs it stands in", "that nobody else counts" */
    private static void whatNotsDoNotCount() {
        search("those with nothing left", "~[4*(9*(a?0,0));1=2]", 0, "go 0 500 = ANSWERED", "of 0 2 = 114");
        search("those that a cut dropped", "~[4*(9*(a?0,1;!));1=2]", 0, "go 0 500 = ANSWERED", "of 0 2 = 150");
        search("those that a once dropped", "~[4*(9*([a?0,1]));1=2]", 0, "go 0 500 = ANSWERED", "of 0 2 = 150");
        search("those of the search", THIRTY + ";~[b?0,1;b=2]", 0, "go 0 500 = ANSWERED", "of 0 3 = 30", "of 0 4 = 30",
            "of 0 5 = 30");
        search("those of a not that is over", "~[(~[" + LESS_ONE + "]|" + THIRTY + ");1=1]", 0, "go 0 500 = DONE",
            "of 0 2 = 189");
        search("but one of a ( ) around it", "~[(~[" + THIRTY + "]|" + THIRTY + ");1=1]", 0, "go 0 500 = CROWDED",
            "of 0 2 = 96");
        search("those of a not that found none", "~[~[9*(a?0,0;b?0,0);1=2];" + THIRTY + "]", 0, "go 0 500 = DONE");
        search("those of a not, in the search", "(~[" + THIRTY + "]|" + THIRTY + ")", 0, "go 0 500 = ANSWERED",
            "of 0 3 = 30", "of 0 4 = 30", "of 0 5 = 31");
    }

    /** "STRATEGY: which OPEN one is TAKEN next: 0 the youngest; 1 the oldest; .." */
    private static void strategies() {
        int[] due = {1, 0, 0, 1, 1};
        for (int strategy = 0; strategy < 5; strategy++) {
            search("one open", "a?1,2", strategy, "go 0 1 = PAUSED", "next 0 = 0", "go 0 1 = ANSWERED", "next 0 = 0");
            search("two open", "a?1,2;b?1,2", strategy, "go 0 3 = PAUSED", "of 0 3 = 2", "next 0 = " + due[strategy]);
        }
        search("deeper: the youngest", "a?1,2;b?1,2", 5, "go 0 5 = PAUSED", "of 0 9 = 1", "go 0 1 = PAUSED",
            "of 0 9 = 2", "go 0 3 = PAUSED", "of 0 3 = 2", "next 0 = 1");
        search("thirty open, the youngest", THIRTY, 0, "go 0 93 = ANSWERED", "next 0 = 29");
        search("thirty open, the oldest", THIRTY, 0, "go 0 93 = ANSWERED", "turn 0 1 = 0", "next 0 = 0");
        search("the oldest has nothing left then", "a?1,1;b?1,2", 1, "go 0 3 = PAUSED", "of 0 3 = 1", "open 0 0 5 = 0",
            "open 0 0 4 = 1", "next 0 = 0");
    }

    /** "2 the least COST, of like ones the oldest; 3 the least COST, of like ones the youngest" */
    private static void likeCosts() {
        // behind ten STEPS three are open, those of a = 0, 1, 2
        String text = "(a:0|a:1|a:2);b?1,2";
        priced("one the least", text, "a*a-2*a+1", 1, "go 0 10 = PAUSED", "of 0 3 = 3",
            "turn 0 2 = 1", "next 0 = 1", "turn 0 3 = 2", "next 0 = 1");
        priced("all alike", text, "7", 1, "go 0 10 = PAUSED", "of 0 3 = 3", "turn 0 2 = 1", "next 0 = 0",
            "turn 0 3 = 2", "next 0 = 2");
        priced("the first two alike", text, "a*a-a", 1, "go 0 10 = PAUSED", "of 0 3 = 3", "turn 0 2 = 1", "next 0 = 0",
            "turn 0 3 = 2", "next 0 = 1");
        priced("the last two alike", text, "a*a-3*a+2", 1, "go 0 10 = PAUSED", "of 0 3 = 3",
            "turn 0 2 = 1", "next 0 = 1", "turn 0 3 = 2", "next 0 = 2");
        priced("no cost: all alike", text, "0", 1, "go 0 10 = PAUSED", "turn 0 2 = 1", "next 0 = 0", "turn 0 3 = 2",
            "next 0 = 2");
        search("none told: all alike", text, 1, "go 0 10 = PAUSED", "turn 0 2 = 1", "next 0 = 0", "turn 0 3 = 2",
            "next 0 = 2");
        priced("below 0 is less", text, "-a", 1, "go 0 10 = PAUSED", "turn 0 2 = 1", "next 0 = 2", "turn 0 3 = 2",
            "next 0 = 2");
    }

    /** "4 the least of TURNS (and one more, if a choice of it was TAKEN already), of like ones the youngest" */
    private static void likeTurns() {
        search("one more, for it was taken", "a?1,2;b?1,2", 4, "go 0 3 = PAUSED", "open 0 0 1 = 0", "open 0 1 1 = 0",
            "next 0 = 1", "go 0 1 = ANSWERED", "next 0 = 1", "go 0 1 = ANSWERED", "next 0 = 0");
        search("a turn and none taken is one, too", "a?1,3;b?1,2", 1, "go 0 3 = PAUSED", "go 0 2 = PAUSED",
            "of 0 3 = 3", "open 0 0 1 = 0", "open 0 1 1 = 0", "open 0 2 1 = 1", "turn 0 4 = 1", "next 0 = 1",
            "go 0 1 = ANSWERED", "next 0 = 2");
        search("one more, and no more than that", "a?1,3;b?1,2;c?1,2", 1, "go 0 5 = PAUSED", "turn 0 4 = 1",
            "next 0 = 1", "go 0 2 = PAUSED", "of 0 3 = 4", "next 0 = 3", "go 0 1 = ANSWERED", "next 0 = 3");
        search("two are more than one", "a?1,3;b?1,2", 1, "go 0 5 = PAUSED", "turn 0 4 = 1", "go 0 1 = ANSWERED",
            "go 0 1 = ANSWERED", "of 0 3 = 3", "next 0 = 1", "go 0 1 = ANSWERED", "next 0 = 0");
    }

    /** "5 DEEPER: .. a WAY fails where it would make a CHOICE POINT of a DEPTH of LIMIT or more (.. 0 at first)" */
    private static void deeper() {
        search("0 at first", "a?1,2", 5, "of 0 9 = 0", "next 0 = NOT");
        search("of a depth of the limit", "a?1,2", 5, "go 0 1 = PAUSED", "of 0 : 1 0 1 0 0 0 0 0 0 1", "next 0 = NOT",
            "open 0 0 0 = NOT", "go 0 1 = PAUSED", "of 0 : 1 0 2 1 1 1 0 0 0 1", "next 0 = 0");
        search("of one less", "a?1,1;b?1,1", 5, "go 0 4 = PAUSED", "of 0 : 1 0 4 0 1 1 1 0 0 2", "go 0 3 = PAUSED",
            "of 0 : 1 0 7 1 1 3 2 0 0 2", "go 0 1 = ANSWERED", "of 0 : 1 1 8 0 1 3 3 0 0 2", "answer 0 0 8 = 2",
            "go 0 1 = DONE", "of 0 9 = 2");
        search("from values 0", "a:a+1;b?1,1;a:a+1", 5, "go 0 500 = ANSWERED", "answer 0 0 : 2 1");
        search("no limit in a not", "~[a?1,2;b?1,2;c?1,2;a+b+c=6]", 5, "go 0 500 = DONE", "of 0 9 = 0", "of 0 2 = 30");
        search("a limit around a not", "a?1,1;~[b?1,2;b=3]", 5, "go 0 500 = ANSWERED", "of 0 9 = 1");
        search("as 0 otherwise", "a?1,2;b?1,2", 5, "all 0 500 = 4", "answer 0 0 : 1 1", "answer 0 1 : 1 2",
            "answer 0 2 : 2 1", "answer 0 3 : 2 2", "of 0 2 = 15", "of 0 9 = 2");
        search("the youngest, whatever its turns", "a?1,3;b?1,2", 5, "all 0 500 = 6", "answer 0 2 : 2 1",
            "answer 0 3 : 2 2", "answer 0 4 : 3 1", "answer 0 5 : 3 2");
        priced("the youngest, whatever its cost", "a?1,3;b?1,2", "a", 5, "all 0 500 = 6", "answer 0 2 : 2 1",
            "answer 0 3 : 2 2", "answer 0 4 : 3 1", "answer 0 5 : 3 2");
        search("36 deep", "4*(9*(a?1,1))", 5, "all 0 2000 = 0", "of 0 0 = 1", "all 0 2000 = 1", "of 0 0 = 2",
            "of 0 9 = 36", "answer 0 0 8 = 36", "of 0 4 = 1", "of 0 5 = 666");
    }

    /** "only ANSWERS count whose DEPTH is LIMIT" */
    private static void deeperAnswers() {
        search("of depth 0", "a:1", 5, "go 0 1 = ANSWERED", "of 0 9 = 0", "go 0 1 = DONE", "of 0 9 = 0", "of 0 2 = 1");
        search("less deep than the limit", "(a:1|b?1,1)", 5, "go 0 4 = ANSWERED", "answer 0 0 : 1 0 0 0 0 0 0 0 1 0 0 4",
            "of 0 9 = 1", "go 0 5 = PAUSED", "of 0 2 = 9", "of 0 1 = 1", "of 0 9 = 2", "go 0 3 = ANSWERED",
            "answer 0 1 : 0 1 0 0 0 0 0 0 2 1 0 12", "go 0 1 = DONE", "of 0 1 = 2");
        search("by all", "(a:1|b?1,1)", 5, "all 0 11 = 1", "all 0 1 = 1", "of 0 0 = 2");
        search("what doesn't count fills nothing", "(a?1,50|b?1,1;c?1,1)", 5, "all 0 2000 = 51", "of 0 0 = 2",
            "of 0 9 = 3");
    }

    /** "when nothing is OPEN, and a WAY failed so since LIMIT is what it is, LIMIT is one more" */
    private static void deeperEnds() {
        search("no way failed so", "1=2", 5, "go 0 1 = DONE", "of 0 9 = 0");
        search("no values: it would make none", "a?2,1", 5, "go 0 1 = DONE", "of 0 9 = 0");
        search("no value: it would make none", "a?1,999+1", 5, "go 0 1 = DONE", "of 0 9 = 0");
        search("no value among: it would make none", "a?{1,999+1}", 5, "go 0 1 = DONE", "of 0 9 = 0");
        search("not since the limit is what it is", "a?1,1;1=2", 5, "go 0 500 = DONE", "of 0 9 = 1", "of 0 2 = 4");
        search("with an answer and without", "(!|a?1,1;1=2)", 5, "go 0 500 = ANSWERED", "of 0 9 = 1", "go 0 500 = DONE",
            "of 0 9 = 2", "of 0 2 = 13");
        search("something is open yet", "a?1,3;b?1,1", 5, "go 0 4 = PAUSED", "of 0 9 = 1", "of 0 3 = 1",
            "go 0 1 = PAUSED", "of 0 9 = 1", "go 0 3 = PAUSED", "of 0 9 = 2", "of 0 3 = 0");
        search("in a not no way fails so", "~[a?1,2;a=3;b?1,2]", 5, "go 0 500 = ANSWERED", "go 0 1 = DONE", "of 0 9 = 0");
    }

    /** "or a STEP would come for which the BUDGET has none left: the WAY stands there .. (or nothing stands ..)" */
    private static void budgetNoneLeft() {
        search("before an S", "a:1;b:2", 0, "go 0 1 = PAUSED", "next 0 = NOT", "of 0 : 1 0 1 0 0 0 0 0 0",
            "go 0 1 = ANSWERED", "answer 0 0 : 1 2");
        search("before a taking: nothing stands", "a?1,2;b:a", 0, "go 0 1 = PAUSED", "next 0 = 0",
            "of 0 : 1 0 1 1 1 1 0 0 0", "go 0 1 = PAUSED", "next 0 = NOT", "of 0 : 1 0 2 1 1 1 1 0 0",
            "go 0 1 = ANSWERED", "next 0 = 0");
        search("before a taking of ways", "(a:1|a:2)", 0, "go 0 1 = PAUSED", "next 0 = 0", "go 0 1 = PAUSED",
            "next 0 = NOT", "go 0 1 = ANSWERED", "next 0 = 0");
        search("before a taking, for a way failed", "a?1,2;a=2", 0, "go 0 3 = PAUSED", "next 0 = 0", "of 0 6 = 1",
            "go 0 1 = PAUSED", "next 0 = NOT", "go 0 1 = ANSWERED", "next 0 = NOT");
        search("before a further round", "2*(a:a+1)", 0, "go 0 2 = PAUSED", "next 0 = NOT", "go 0 1 = PAUSED",
            "next 0 = NOT", "go 0 1 = ANSWERED", "answer 0 0 0 = 2");
        search("the bracket's begin is a step", "[a:1]", 0, "go 0 1 = PAUSED", "next 0 = NOT", "go 0 1 = ANSWERED");
        search("each go has a budget of its own", "a:1;b:2;c:3", 0, "go 0 2 = PAUSED", "go 0 500 = ANSWERED",
            "of 0 2 = 3");
        search("500 are had", "9*(9*(9*(9*(a:1))))", 0, "go 0 500 = PAUSED", "of 0 2 = 500", "go 0 499 = PAUSED",
            "of 0 2 = 999", "go 0 1 = PAUSED", "of 0 2 = 1000");
        search("2000 are had", "9*(9*(9*(9*(a:1))))", 0, "all 0 2000 = 0", "of 0 2 = 2000", "all 0 1999 = 0",
            "of 0 2 = 3999", "all 0 1 = 0", "of 0 2 = 4000", "would 0 500 2 = 4500", "would 0 1 2 = 4001",
            "of 0 2 = 4000");
    }

    /** "(in a NOT, too; ..)": the WAY stands, even where a choice of the NOT's own would be TAKEN. */
    private static void budgetNoneLeftInNot() {
        search("at each step of it", "a?1,2;~[b?1,2;b=3];c:1", 0, "go 0 1 = PAUSED", "next 0 = 0", "go 0 1 = PAUSED",
            "next 0 = NOT", "go 0 1 = PAUSED", "next 0 = NOT", "go 0 1 = PAUSED", "next 0 = NOT", "of 0 3 = 1",
            "of 0 5 = 1", "of 0 6 = 1", "open 0 1 0 = NOT", "go 0 1 = PAUSED", "next 0 = NOT", "of 0 6 = 1",
            "go 0 1 = PAUSED", "next 0 = NOT", "go 0 1 = PAUSED", "next 0 = NOT", "go 0 1 = PAUSED", "next 0 = NOT",
            "of 0 2 = 8", "go 0 1 = ANSWERED", "next 0 = 0", "answer 0 0 : 1 0 1");
        search("it has an answer by the last step", "a?1,2;~[a=1];b:1", 0, "go 0 4 = PAUSED", "next 0 = 0",
            "go 0 1 = PAUSED", "next 0 = NOT", "go 0 1 = PAUSED", "next 0 = NOT", "go 0 1 = PAUSED", "next 0 = NOT",
            "go 0 1 = ANSWERED", "answer 0 0 : 2 1");
        search("before a round in it", "~[2*(a:a+1);a=3]", 0, "5x go 0 1 = PAUSED", "go 0 1 = ANSWERED",
            "answer 0 0 0 = 0");
        search("in a not in a not", "~[a?1,2;~[b?1,2;b=a]]", 0, "13x go 0 1 = PAUSED", "go 0 1 = ANSWERED",
            "of 0 2 = 14");
        search("a copy of one that stands in it", "a?1,2;~[b?1,2;b=a];c:1", 0, "go 0 5 = PAUSED", "copy 0 1 = 0",
            "next 1 = NOT", "go 1 500 = DONE", "of 1 2 = 13", "of 0 2 = 5", "go 0 500 = DONE", "of 0 2 = 13");
    }

    /** What needs no STEP is done with the last one: ends of brackets, drops, ANSWERS, fails, LIMIT. */
    private static void noStepNeeded() {
        search("an answer", "[[[[[[a:1]]]]]]", 0, "go 0 7 = ANSWERED");
        search("what a once drops", "[a?1,2];b:1", 0, "go 0 3 = PAUSED", "of 0 7 = 1", "of 0 3 = 0");
        search("a not that is over", "~[1=2];b:1", 0, "go 0 2 = PAUSED", "go 0 1 = ANSWERED", "of 0 2 = 3");
        search("the last not is over", "~[~[~[1=2]]]", 0, "go 0 4 = ANSWERED");
        search("it is done", "~[1=1]", 0, "go 0 2 = DONE");
        search("limit", "a?1,2", 5, "go 0 1 = PAUSED", "of 0 9 = 1");
        search("done behind an answer, by all", "a:1", 0, "all 0 1 = 1", "of 0 0 = 2", "of 0 2 = 1");
        search("done behind an answer, in thought", "a:1", 0, "would 0 1 0 = 1", "would 0 1 1 = 1", "would 0 1 2 = 1",
            "of 0 0 = 1");
        search("an answer, then one more step", "a?1,2", 0, "all 0 2 = 1", "of 0 0 = 1", "next 0 = 0", "all 0 1 = 1",
            "of 0 0 = 2");
    }

    /** "nothing is OPEN (and no WAY stands): it is done" */
    private static void nothingOpen() {
        search("no answer", "1=2", 0, "of 0 0 = 1", "go 0 1 = DONE", "of 0 0 = 2", "go 0 1 = STATE", "all 0 1 = STATE",
            "next 0 = NOT", "answer 0 0 0 = NOT", "open 0 0 0 = NOT", "ordered 0 0 = NOT", "unlike 0 = 0",
            "common 0 0 = 0");
        search("a way stands at the begin", "1=1", 0, "of 0 0 = 1", "of 0 3 = 0", "next 0 = NOT", "go 0 1 = ANSWERED");
        search("a way stands in its midst", "1=1;2=2", 0, "go 0 1 = PAUSED", "of 0 0 = 1", "of 0 3 = 0",
            "next 0 = NOT", "open 0 0 0 = NOT");
        search("behind the last answer", "a?1,2", 0, "go 0 2 = ANSWERED", "of 0 3 = 1", "go 0 1 = ANSWERED",
            "of 0 3 = 0", "of 0 0 = 1", "next 0 = NOT", "open 0 0 0 = NOT", "go 0 1 = DONE", "of 0 0 = 2",
            "of 0 2 = 3", "go 0 1 = STATE");
        search("no steps left for another one", "a?1,2;a=3", 0, "go 0 4 = PAUSED", "of 0 0 = 1", "go 0 1 = DONE",
            "of 0 2 = 5");
        search("an answer ends the go", "a?1,3", 0, "go 0 500 = ANSWERED", "of 0 1 = 1", "of 0 2 = 2");
        search("all does not end by answers", "a?1,3", 0, "all 0 500 = 3", "of 0 0 = 2", "all 0 500 = STATE");
    }

    /** "A WAY that would make a 31st OPEN one: CROWDED, it is done." */
    private static void thirtyFirstOpen() {
        search("thirty", THIRTY, 0, "go 0 93 = ANSWERED", "of 0 : 1 1 93 30 30 30 30 0 0", "open 0 29 0 = 29",
            "open 0 29 3 = 1", "open 0 30 0 = NOT", "next 0 = 29", "go 0 1 = ANSWERED", "of 0 3 = 29");
        search("a 31st", THIRTY + ";b?0,1", 0, "go 0 500 = CROWDED", "of 0 : 2 0 94 30 30 30 30 0 0", "go 0 1 = STATE",
            "all 0 1 = STATE", "next 0 = NOT", "open 0 29 0 = 29", "open 0 30 0 = NOT", "would 0 1 0 = 0",
            "would 0 1 1 = 1", "would 0 1 2 = 94", "turn 0 1 = 0", "copy 0 1 = 0", "of 1 0 = 2", "go 1 1 = STATE");
        search("by the last step", THIRTY + ";b?0,1", 0, "go 0 93 = PAUSED", "of 0 0 = 1", "go 0 1 = CROWDED");
        search("by all", THIRTY + ";b?0,1", 0, "all 0 2000 = 0", "of 0 0 = 2", "of 0 2 = 94");
        search("in thought", THIRTY + ";b?0,1", 0, "would 0 93 1 = 0", "would 0 94 1 = 1", "would 0 500 1 = 1",
            "would 0 500 2 = 94", "of 0 0 = 1");
        search("of one value", THIRTY + ";b?0,0", 0, "go 0 500 = CROWDED");
        search("of ways", THIRTY + ";(!)", 0, "go 0 500 = CROWDED");
        search("of no values: the way fails", THIRTY + ";b?1,0", 0, "go 0 94 = PAUSED", "of 0 0 = 1");
        search("one less is open", THIRTY + ";!;b?0,1", 0, "go 0 500 = ANSWERED", "of 0 3 = 1", "of 0 4 = 30",
            "of 0 5 = 31");
        search("those with nothing left aren't open", "4*(9*(a?0,0))", 0, "go 0 500 = ANSWERED", "of 0 4 = 1",
            "of 0 5 = 36");
        search("the oldest with nothing left isn't open", "a?0,0;" + THIRTY, 0, "go 0 500 = ANSWERED", "of 0 3 = 30",
            "of 0 5 = 31");
        search("thirty in breadth", "a?1,30;b?1,2", 1, "go 0 59 = PAUSED", "of 0 3 = 30", "go 0 1 = PAUSED",
            "of 0 3 = 29", "go 0 1 = PAUSED", "of 0 3 = 30", "of 0 4 = 30", "of 0 0 = 1", "go 0 1 = ANSWERED",
            "all 0 59 = 59", "of 0 0 = 2", "of 0 1 = 60");
        search("a 31st in breadth", "a?1,31;b?1,2", 1, "go 0 500 = CROWDED", "of 0 3 = 30", "of 0 2 = 61",
            "of 0 5 = 30");
        search("deeper: by the limit it fails before", THIRTY + ";b?0,1", 5, "go 0 1 = fine", "of 0 0 = 1");
    }

    /** "A 61st ANSWER: FILLED, it is done (that one isn't kept)." */
    private static void sixtyFirstAnswer() {
        search("sixty", "a?1,60", 0, "60x go 0 2 = ANSWERED", "of 0 0 = 1", "go 0 2 = DONE", "of 0 1 = 60",
            "answer 0 59 0 = 60", "answer 0 60 0 = NOT", "ordered 0 59 = 59", "ordered 0 60 = NOT", "unlike 0 = 60",
            "common 0 0 = 60", "count 3 = 60", "copy 0 3 = 60", "count 3 = 120");
        search("a 61st", "a?1,61", 0, "60x go 0 2 = ANSWERED", "go 0 2 = FILLED", "of 0 : 2 60 62 0 1 1 61 0 60",
            "answer 0 59 0 = 60", "answer 0 60 0 = NOT", "ordered 0 60 = NOT", "go 0 2 = STATE", "all 0 2 = STATE",
            "unlike 0 = 60", "count 3 = 60", "count 2 = 0");
        search("sixty by all", "a?1,60", 0, "all 0 61 = 60", "of 0 0 = 2", "of 0 2 = 61");
        search("a 61st by all", "a?1,61", 0, "all 0 61 = 60", "of 0 0 = 1", "all 0 1 = 0", "of 0 0 = 2", "of 0 1 = 60");
        search("more are open", "a?1,99", 0, "all 0 500 = 60", "of 0 0 = 2", "of 0 3 = 1", "open 0 0 3 = 38",
            "next 0 = NOT", "would 0 500 0 = 60", "would 0 500 1 = 1", "would 0 500 2 = 62");
        search("in thought", "a?1,99", 0, "would 0 60 0 = 59", "would 0 61 0 = 60", "would 0 61 1 = 0",
            "would 0 62 0 = 60", "would 0 62 1 = 1", "would 0 62 2 = 62", "of 0 1 = 0");
        search("those that fail don't fill", "a?1,99;a<61", 0, "all 0 500 = 60", "of 0 0 = 2", "of 0 2 = 199",
            "of 0 3 = 0");
        search("like answers fill, too", "9*(b:1);a?{1,1,1,1,1,1};c?1,20", 0, "all 0 500 = 60", "of 0 0 = 2",
            "unlike 0 = 20");
        search("deeper", "a?1,61", 5, "all 0 500 = 60", "of 0 0 = 2", "of 0 9 = 1", "of 0 2 = 63");
    }

    /** "UNDONE: by each TAKING (not within a NOT) as many as there are VARIABLES that the WAY .. had otherwise" */
    private static void undone() {
        search("the way ended at the point: none", "a?1,2", 0, "go 0 2 = ANSWERED", "of 0 8 = 0");
        search("one", "a?1,2", 0, "all 0 9 = 2", "of 0 8 = 1");
        search("all eight", "a?1,2;a:5;b:5;c:5;d:5;e:5;f:5;g:5;h:5", 0, "go 0 99 = ANSWERED", "of 0 8 = 0",
            "go 0 1 = PAUSED", "of 0 8 = 8", "go 0 99 = ANSWERED", "go 0 1 = DONE", "of 0 8 = 8");
        search("otherwise in its midst alone", "a?1,2;b:5;b:0;a:0", 0, "all 0 99 = 2", "of 0 8 = 0");
        search("to another value", "a:1;a?2,3;a:1", 0, "all 0 99 = 2", "of 0 8 = 0");
        search("a way that failed", "a?1,2;b:5;1=2", 0, "all 0 99 = 0", "of 0 8 = 2");
        search("a way that failed by no value", "a?1,2;b:999;b:b+1", 0, "all 0 99 = 0", "of 0 8 = 2");
        search("a way that failed by a not", "a?1,2;b:5;~[c:1;d?1,2]", 0, "all 0 99 = 0", "of 0 8 = 2");
        search("all together", "a?1,3;b:a", 0, "all 0 99 = 3", "of 0 8 = 4");
        search("not within a not", "~[a?1,3;b:5;a=4]", 0, "go 0 99 = ANSWERED", "of 0 8 = 0", "of 0 6 = 0");
        search("the way that went on last, not the one that made it", "a?1,2;b?1,2", 1, "go 0 4 = PAUSED",
            "of 0 8 = 1", "go 0 2 = ANSWERED", "of 0 8 = 2", "go 0 1 = ANSWERED", "of 0 8 = 3", "go 0 1 = ANSWERED",
            "of 0 8 = 5", "go 0 1 = ANSWERED", "of 0 8 = 6");
        search("step by step the same", "a?1,3;b:a", 0, "2x go 0 1 = PAUSED", "go 0 1 = ANSWERED", "go 0 1 = PAUSED",
            "of 0 8 = 2", "go 0 1 = ANSWERED", "go 0 1 = PAUSED", "of 0 8 = 4");
        search("begun anew by deeper is no taking", "a:7;b?1,1", 5, "all 0 99 = 1", "of 0 8 = 0", "of 0 6 = 1");
    }

    /** "A SEARCH becomes just as another one is": a copy, or a thought, goes on from any place. */
    private static void copiesInTheMidst() {
        goesOnAlike("in a not in a not", "~[a?1,2;~[b?1,2;b=3];a=2]", 0, 7, "go @ 500 = DONE", "of @ : 2 0 18 0 0");
        goesOnAlike("in the sixth not", "~[a?1,2;~[~[~[~[~[b?1,2;b=3]]]]]]", 0, 11, "go @ 500 = DONE", "of @ : 2 0 13");
        goesOnAlike("a way failed by the limit", "a?{1,2};a=1;b?1,1", 5, 5, "all @ 99 = 1", "of @ : 2 1 14 0 2 3 5 0 3 2");
        goesOnAlike("values among", "a?{7,8,9};b:a", 0, 3, "all @ 99 = 2", "answer @ 2 : 9 9", "answer @ 0 : 7 7");
        goesOnAlike("rounds", "3*(a?1,2;b:b*3+a)", 0, 6, "all @ 500 = 8", "answer @ 7 : 2 26");
        goesOnAlike("in a once", "[a?1,3;b?1,2;a=2];c?1,2", 0, 5, "all @ 500 = 2", "of @ 7 = 2", "answer @ 1 : 2 1 2");
        Rows.priced(c, "by its costs", "(a:2|a:1|a:3);b?{5,4}", "a", 1, "go 0 10 = PAUSED", "turn 0 2 = 1",
            "copy 0 3 = 0", "open 3 0 2 = 2", "open 3 1 2 = 1", "open 3 2 2 = 3", "next 3 = 1", "all 3 99 = 6",
            "answer 3 0 : 1 5", "answer 3 1 : 1 4", "answer 3 2 : 2 5", "answer 3 5 : 3 4", "of 0 1 = 0");
    }

    /** After so many STEPS it is copied to one that is none and to one that is used; all go on alike. */
    private static void goesOnAlike(String title, String text, int strategy, int steps, String... rows) {
        String[] setup = {"begin 1 0 1 = 1", "all 1 77 = fine", "all 0 " + steps + " = fine", "of 0 2 = " + steps,
            "copy 0 1 = fine", "copy 0 2 = fine", "would 0 500 2 = fine"};
        String[] all = java.util.Arrays.copyOf(setup, setup.length + 3 * rows.length);
        for (int i = 0; i < rows.length; i++) {
            all[setup.length + i] = rows[i].replace('@', '2');
            all[setup.length + rows.length + i] = rows[i].replace('@', '1');
            all[setup.length + 2 * rows.length + i] = rows[i].replace('@', '0');
        }
        search(title, text, strategy, all);
    }

    /** "SEARCHES 0 .. 3: none at first; begun of a PROGRAM (as it is then, with THE COST of then)" */
    private static void sideBySide() {
        Rows.run(c, "four searches side by side", "program 0 a?1,3;b:a = 2", "cost 0 9-b = 1", "begin 0 0 0 = 1",
            "program 0 a?4,5 = 1", "begin 1 0 1 = 1", "cost 0 a = 1", "begin 2 0 2 = 1", "begin 3 0 5 = 1",
            "go 0 3 = ANSWERED", "of 1 2 = 0", "all 1 9 = 2", "of 0 2 = 3", "go 2 2 = ANSWERED", "go 3 3 = ANSWERED",
            "all 0 99 = 2", "answer 0 0 : 1 1 0 0 0 0 0 0 1 0 8 3", "answer 1 0 : 4 0 0 0 0 0 0 0 1 0 0 2",
            "answer 2 0 : 4 0 0 0 0 0 0 0 1 0 4 2", "answer 3 0 : 4 0 0 0 0 0 0 0 1 0 4 3", "answer 3 1 0 = NOT",
            "of 0 0 = 2", "of 1 0 = 2", "of 2 0 = 1", "of 3 0 = 1", "count 2 = 2", "count 3 = 7");
    }
}
