import java.util.ArrayList;
import java.util.List;

/** Part 1 of the document's terms: where a text begins to be none, sentence by sentence. */
public final class TextBoundsTest {
    private static final Checks c = new Checks("TextBoundsTest");
    private static final String LETTERS = "abcdefgh";
    private static final String DIGITS = "0123456789";
    /** The bytes by which an E begins, and those that go on behind a VARIABLE or a whole number in it. */
    private static final String E_BEGINS = LETTERS + DIGITS + "-";
    private static final String E_GOES_ON = "+-*";
    private static final String S_BEGINS = E_BEGINS + "([~!";
    private static final String SIGNS = "<=>#";
    private static final String THIRTY_NINE = "!;".repeat(38) + "!";
    private static final String FORTY = "!;".repeat(39) + "!";

    public static void main(String[] args) {
        variables();
        tape();
        blanks();
        beginsOfStatements();
        goesOnInFormulas();
        goesOnBehindStatements();
        goesOnInCosts();
        tooEarly();
        wrongByte();
        digits();
        amongParts();
        waysParts();
        timesDigit();
        bracketsOpen();
        statements();
        firstFault();
        programsAndCosts();
        manyTexts();
        c.end();
    }

    /** The size of the PROGRAM that the text is. */
    private static void reads(String text, int size) {
        Rows.run(c, "a program", "program 0 " + text + " = " + size);
    }

    /** The text is no PROGRAM, its FAULT is at the place, and a PROGRAM that was there stays. */
    private static void faults(String text, int place) {
        Rows.run(c, "a fault", "program 0 a?1,3;b:a = 2", "cost 0 9-a = 1",
            "begin 0 0 0 = 1", "program 0 " + text + " = " + (-100 - place), "count 1 = 0", "count 0 = 1");
    }

    private static void costFaults(String text, int place) {
        Rows.run(c, "a fault of a cost", "program 0 a?1,3;b:a = 2", "cost 0 9-a = 1", "begin 0 0 0 = 1",
            "cost 0 " + text + " = " + (-100 - place), "count 1 = 0", "count 0 = 1");
    }

    /** Behind the beginning just these bytes go on: the FAULT of each other one is at its place. */
    private static void goesOn(String beginning, String bytes) {
        for (int letter = 1; letter <= 255; letter++) {
            TrailSearch x = new TrailSearch();
            Checks.feed(x, beginning + (char) letter);
            int answered = x.program(0);
            boolean on = answered > 0 || answered == -100 - beginning.length() - 1;
            boolean stops = answered == -100 - beginning.length();
            boolean fine = bytes.indexOf(letter) >= 0 ? on : stops;
            c.due(beginning + " and the byte " + letter + ", which answered " + answered, fine ? 1 : 0, 1);
        }
    }

    private static void costGoesOn(String beginning, String bytes) {
        TrailSearch x = new TrailSearch();
        Checks.program(x, 0, "!");
        for (int letter = 1; letter <= 255; letter++) {
            if (letter % 40 == 0) {
                x = new TrailSearch();
                Checks.program(x, 0, "!");
            }
            Checks.feed(x, beginning + (char) letter);
            int answered = x.cost(0);
            boolean on = answered == 1 || answered == -100 - beginning.length() - 1;
            boolean stops = answered == -100 - beginning.length();
            boolean fine = bytes.indexOf(letter) >= 0 ? on : stops;
            c.due("cost " + beginning + " and the byte " + letter + ", which answered " + answered, fine ? 1 : 0, 1);
        }
    }

    /** "VARIABLES a .. h" */
    private static void variables() {
        String[] first = {"a:1", "a?1,2", "a?{1}", "a=1", "1=a", "b:a", "b?a,1", "b?1,a", "b?{a}", "b?{1,a}", "b:1*-a"};
        for (String text : first) {
            reads(text, 1);
            reads(text.replace('a', 'h'), 1);
            faults(text.replace('a', 'i'), text.indexOf('a'));
            faults(text.replace('a', '`'), text.indexOf('a'));
            faults(text.replace('a', 'A'), text.indexOf('a'));
            faults(text.replace('a', 'H'), text.indexOf('a'));
        }
        for (int v = 0; v < 8; v++) {
            char name = LETTERS.charAt(v);
            StringBuilder due = new StringBuilder("answer 0 0 :");
            for (int k = 0; k < 8; k++) {
                due.append(k == v ? " 5" : " 0");
            }
            Rows.run(c, "the variable " + name, "program 0 " + name + ":5;" + name + "=5 = 2", "begin 0 0 0 = 1",
                "go 0 9 = ANSWERED", due.toString());
            Rows.run(c, "the variable " + name, "program 0 " + name + "?5,5;-" + name + "<-4 = 2", "begin 0 0 0 = 1",
                "go 0 9 = ANSWERED", due.toString());
        }
    }

    /** "150 bytes at most" */
    private static void tape() {
        String bytes149 = "b:" + "-".repeat(146) + "7";
        String bytes150 = "b:" + "-".repeat(147) + "7";
        Rows.run(c, "149 bytes", "text " + bytes149, "count 1 = 149", "program 0 = 1", "count 1 = 0",
            "begin 0 0 0 = 1", "go 0 1 = ANSWERED", "answer 0 0 1 = 7");
        Rows.run(c, "150 bytes", "text " + bytes150, "count 1 = 150", "feed 49 = NOT", "count 1 = 150",
            "program 0 = 1", "count 1 = 0", "begin 0 0 0 = 1", "go 0 1 = ANSWERED", "answer 0 0 1 = -7");
        Rows.run(c, "150 bytes that end too early", "program 0 " + "a:1;".repeat(37) + "a: = -250", "count 0 = 0");
        Rows.run(c, "149 bytes that end too early", "program 0 " + "a:1;".repeat(37) + "a = -249", "count 0 = 0");
        Rows.run(c, "a fault at the 150th byte", "program 0 " + "a:1;".repeat(37) + "a! = -249", "count 0 = 0");
        Rows.run(c, "a fault at the first of 150", "program 0 " + ";".repeat(150) + " = -100", "count 1 = 0");
        String cost150 = "-".repeat(149) + "a";
        Rows.run(c, "a cost of 150 bytes", "program 0 a:3 = 1", "text " + cost150, "feed 49 = NOT", "cost 0 = 1",
            "count 1 = 0", "begin 0 0 0 = 1", "go 0 1 = ANSWERED", "answer 0 0 10 = -3");
        Rows.run(c, "a cost of 150 bytes that ends too early", "program 0 a:3 = 1",
            "cost 0 " + "-".repeat(150) + " = -250", "count 1 = 0");
        Rows.run(c, "a cost of 150 bytes, each a part", "program 0 a:3 = 1", "cost 0 " + "a-".repeat(74) + "1* = -250",
            "cost 0 " + "a-".repeat(74) + "10 = 1", "begin 0 0 0 = 1", "go 0 1 = ANSWERED", "answer 0 0 10 = -226");
    }

    /** "no blanks" */
    private static void blanks() {
        String text = "2*(a?{1,b+12});c:1";
        reads(text, 3);
        for (int place = 0; place <= text.length(); place++) {
            for (char blank : new char[] {' ', '\t', '\n', '\r', '\f', '\u00a0'}) {
                TrailSearch x = new TrailSearch();
                String with = text.substring(0, place) + blank + text.substring(place);
                c.due("a blank at " + place, Checks.program(x, 0, with), -100 - place);
            }
        }
    }

    /** "S: ..", "(One digit 1 .. 9, * and ( begin TIMES; a VARIABLE and : or ? ASSIGN, CHOOSE; ..)" */
    private static void beginsOfStatements() {
        for (String before : new String[] {"", "!;", "(", "(!|", "[", "~[", "2*(", "a:1;"}) {
            goesOn(before, S_BEGINS);
        }
        goesOn("a", ":?" + E_GOES_ON + SIGNS);
        goesOn("h", ":?" + E_GOES_ON + SIGNS);
        goesOn("a:", E_BEGINS);
        goesOn("a?", E_BEGINS + "{");
        goesOn("a?{", E_BEGINS);
        goesOn("~", "[");
        goesOn("1*", E_BEGINS + "(");
        goesOn("9*", E_BEGINS + "(");
        goesOn("0*", E_BEGINS);
        goesOn("12*", E_BEGINS);
        goesOn("01*", E_BEGINS);
        goesOn("a*", E_BEGINS);
        goesOn("-2*", E_BEGINS);
        goesOn("2*2*", E_BEGINS);
        goesOn("2", DIGITS + E_GOES_ON + SIGNS);
        goesOn("-", E_BEGINS);
        goesOn("-a", E_GOES_ON + SIGNS);
        goesOn("--a", E_GOES_ON + SIGNS);
        goesOn("a+b", E_GOES_ON + SIGNS);
    }

    /** "E: T { + T, - T }. T: U { * U }. U: a number (1 to 3 digits), a VARIABLE, - U." */
    private static void goesOnInFormulas() {
        goesOn("a:1", DIGITS + E_GOES_ON + ";");
        goesOn("a:12", DIGITS + E_GOES_ON + ";");
        goesOn("a:123", E_GOES_ON + ";");
        goesOn("a:b", E_GOES_ON + ";");
        goesOn("a:-", E_BEGINS);
        goesOn("a:1+", E_BEGINS);
        goesOn("a:1-", E_BEGINS);
        goesOn("a:1*", E_BEGINS);
        goesOn("a:1--", E_BEGINS);
        goesOn("a?1", DIGITS + E_GOES_ON + ",");
        goesOn("a?123", E_GOES_ON + ",");
        goesOn("a?b", E_GOES_ON + ",");
        goesOn("a?1,", E_BEGINS);
        goesOn("a?1,b", E_GOES_ON + ";");
        goesOn("a?1,123", E_GOES_ON + ";");
        goesOn("a?{b", E_GOES_ON + ",}");
        goesOn("a?{123", E_GOES_ON + ",}");
        goesOn("a?{1,", E_BEGINS);
        goesOn("a?{1,2,3,4,5,b", E_GOES_ON + "}");
        goesOn("a?{1}", ";");
        goesOn("123", E_GOES_ON + SIGNS);
        for (int i = 0; i < SIGNS.length(); i++) {
            goesOn("a" + SIGNS.charAt(i), E_BEGINS);
            goesOn("a" + SIGNS.charAt(i) + "123", E_GOES_ON + ";");
            goesOn("a" + SIGNS.charAt(i) + "b", E_GOES_ON + ";");
        }
    }

    /** "P: S { ; S }", "( P { | P } )", "[ P ]", "~ [ P ]", "* ( P )" */
    private static void goesOnBehindStatements() {
        goesOn("!", ";");
        goesOn("(!)", ";");
        goesOn("[!]", ";");
        goesOn("~[!]", ";");
        goesOn("2*(!)", ";");
        goesOn("(!", ";|)");
        goesOn("(!|!", ";|)");
        goesOn("(!|!|!|!|!|!", ";)");
        goesOn("[!", ";]");
        goesOn("~[!", ";]");
        goesOn("2*(!", ";)");
        goesOn("([!", ";]");
        goesOn("[(!", ";|)");
        goesOn("([!]", ";|)");
        goesOn("[(!)", ";]");
        goesOn("(2*(!", ";)");
        goesOn("(2*(!)", ";|)");
        goesOn("2*((!)", ";)");
        goesOn("(a:b", E_GOES_ON + ";|)");
        goesOn("[a:b", E_GOES_ON + ";]");
        goesOn("[1<123", E_GOES_ON + ";]");
        goesOn("2*(a?1,b", E_GOES_ON + ";)");
        goesOn("(a?{1}", ";|)");
    }

    /** "THE COST of each: an E by THE TAPE" */
    private static void goesOnInCosts() {
        costGoesOn("", E_BEGINS);
        costGoesOn("-", E_BEGINS);
        costGoesOn("a", E_GOES_ON);
        costGoesOn("h", E_GOES_ON);
        costGoesOn("1", DIGITS + E_GOES_ON);
        costGoesOn("12", DIGITS + E_GOES_ON);
        costGoesOn("123", E_GOES_ON);
        costGoesOn("a+", E_BEGINS);
        costGoesOn("a-", E_BEGINS);
        costGoesOn("2*", E_BEGINS);
        costGoesOn("a+b*-c", E_GOES_ON);
    }

    /** "the size, if it ends too early" */
    private static void tooEarly() {
        prefixes("a:12+b;c?1,b*2;d?{1,-2,c}", 3, 4, 6, 12, 14, 25);
        prefixes("(!|a<1;!);[!];~[b#1];2*(3>a)", 9, 13, 20, 28);
        prefixes("9*([~[(!)]]);1*2=2", 12, 18);
        faults("", 0);
        costPrefixes("-a+12*-b", 2, 4, 5, 8);
        costFaults("", 0);
    }

    /** Each beginning of the text is a PROGRAM if it has one of the sizes, else it ends too early. */
    private static void prefixes(String text, int... sizes) {
        List<Integer> whole = new ArrayList<>();
        for (int size : sizes) {
            whole.add(size);
        }
        for (int size = 0; size <= text.length(); size++) {
            int answered = Checks.program(new TrailSearch(), 0, text.substring(0, size));
            if (whole.contains(size)) {
                c.due(text.substring(0, size) + " is a program", Math.min(answered, 1), 1);
            } else {
                faults(text.substring(0, size), size);
            }
        }
    }

    private static void costPrefixes(String text, int... sizes) {
        List<Integer> whole = new ArrayList<>();
        for (int size : sizes) {
            whole.add(size);
        }
        for (int size = 0; size <= text.length(); size++) {
            if (whole.contains(size)) {
                Rows.run(c, "a cost", "program 1 ! = 1", "cost 1 " + text.substring(0, size) + " = 1");
            } else {
                costFaults(text.substring(0, size), size);
            }
        }
    }

    /** "otherwise the first byte with which no PROGRAM goes on" */
    private static void wrongByte() {
        String text = "a:12+b;c?1,b*2;d?{1,-2,c};(!|a<1;!);[!];~[b#1];2*(3>a)";
        for (int place = 0; place <= text.length(); place++) {
            for (char wrong : new char[] {'z', '.', '\u0001', '\u00ff'}) {
                TrailSearch x = new TrailSearch();
                String with = text.substring(0, place) + wrong + text.substring(Math.min(place + 1, text.length()));
                c.due(with, Checks.program(x, 0, with), -100 - place);
            }
        }
    }

    /** "a number (1 to 3 digits)" */
    private static void digits() {
        // @ stands where the number does
        String[] texts = {"a:@", "a:b+@", "a:b*@", "a:--@", "a?@,1", "a?1,@", "a?{@,1}", "a?{1,@}", "@=1", "1=@",
            "b<a-@"};
        for (String text : texts) {
            for (String number : new String[] {"7", "0", "77", "999", "000"}) {
                reads(text.replace("@", number), 1);
            }
            faults(text.replace("@", "1000"), text.indexOf('@') + 3);
            faults(text.replace("@", "0000"), text.indexOf('@') + 3);
            faults(text.replace("@", ""), text.indexOf('@'));
        }
        Rows.run(c, "digits of a cost", "program 0 ! = 1", "cost 0 7 = 1", "cost 0 77 = 1", "cost 0 777 = 1");
        costFaults("7777", 3);
        costFaults("a+0000", 5);
        Rows.run(c, "what the digits are", "program 0 a:7;b:70;c:700;d:007;e:0;f:999;g:10 = 7", "begin 0 0 0 = 1",
            "go 0 7 = ANSWERED", "answer 0 0 : 7 70 700 7 0 999 10 0");
    }

    /** "CHOOSE among 1 to 6", "of what would be a seventh E in { }: its ," */
    private static void amongParts() {
        faults("a?{}", 3);
        reads("a?{1}", 1);
        reads("a?{1,2,3,4,5}", 1);
        reads("a?{1,2,3,4,5,6}", 1);
        faults("a?{1,2,3,4,5,6,7}", 14);
        faults("a?{1,2,3,4,5,6,", 14);
        faults("a?{1,2,3,4,5,6,}", 14);
        faults("a?{-1,b+2,3*c,444,5,6,7}", 21);
        faults("b:1;(a?{1,2,3,4,5,6,7})", 19);
        faults("a?{1,2,3,4,5,6;", 14);
        faults("a?{1,2,3,4,5,6", 14);
        reads("a?{1,2,3,4,5,6};b?{1,2,3,4,5,6};c?{1}", 3);
        faults("a?{1};b?{1,2,3,4,5,6,7}", 20);
        Rows.run(c, "one value", "program 0 a?{4} = 1", "begin 0 0 0 = 1", "all 0 9 = 1", "answer 0 0 0 = 4");
        Rows.run(c, "six values", "program 0 a?{6,5,4,3,2,-1} = 1", "begin 0 0 0 = 1", "go 0 1 = PAUSED",
            "open 0 0 3 = 6", "all 0 6 = 6", "answer 0 0 0 = 6", "answer 0 4 0 = 2", "answer 0 5 0 = -1",
            "answer 0 6 0 = NOT");
    }

    /** "( P { | P } ) (WAYS, 1 to 6)", "of what would be a seventh P in ( ): its |" */
    private static void waysParts() {
        faults("()", 1);
        reads("(!)", 2);
        reads("(!|!|!|!|!)", 6);
        reads("(!|!|!|!|!|!)", 7);
        faults("(!|!|!|!|!|!|!)", 12);
        faults("(!|!|!|!|!|!|", 12);
        faults("(!|!|!|!|!|!|)", 12);
        faults("(!;!|!|!|!|!|!|!)", 14);
        faults("b:1;[(!|!|!|!|!|!|!)]", 17);
        faults("(!|", 3);
        faults("(|!)", 1);
        faults("(!||!)", 3);
        reads("(!|!|!|!|!|(!|!|!|!|!|!));(!|!|!|!|!|!)", 20);
        faults("(!|!|!|!|!|(!|!)|!)", 16);
        faults("((!|!|!|!|!|!|!))", 13);
        faults("((!|!|!|!|!|!)|!|!|!|!|!|!)", 24);
        Rows.run(c, "one way", "program 0 (a:4) = 2", "begin 0 0 0 = 1", "all 0 9 = 1", "answer 0 0 0 = 4");
        Rows.run(c, "six ways", "program 0 (a:6|a:5|a:4|a:3|a:2|a:-1) = 7", "begin 0 0 0 = 1", "go 0 1 = PAUSED",
            "open 0 0 3 = 6", "all 0 12 = 6", "answer 0 0 0 = 6", "answer 0 4 0 = 2", "answer 0 5 0 = -1",
            "answer 0 6 0 = NOT");
    }

    /** "a digit 1 .. 9 * ( P ) (TIMES)" */
    private static void timesDigit() {
        for (int digit = 1; digit <= 9; digit++) {
            Rows.run(c, digit + " times", "program 0 " + digit + "*(a:a+1) = 2", "begin 0 0 0 = 1",
                "go 0 " + 2 * digit + " = ANSWERED", "answer 0 0 0 = " + digit, "of 0 2 = " + 2 * digit);
        }
        faults("0*(!)", 2);
        faults("10*(!)", 3);
        faults("09*(!)", 3);
        faults("-1*(!)", 3);
        faults("a*(!)", 2);
        faults("*(!)", 0);
        faults("2(!)", 1);
        faults("2*[!]", 2);
        faults("2*~[!]", 2);
        faults("2*!", 2);
        faults("2*(!|!)", 4);
        faults("2*()", 3);
        reads("2*3=6", 1);
        reads("9*a=6", 1);
    }

    /** "At most 6 of ( and [ are open at once", "of a ( or [ while 6 are open" */
    private static void bracketsOpen() {
        String[] opens = {"(", "[", "~[", "2*("};
        String[] closes = {")", "]", "]", ")"};
        for (int i = 0; i < 4; i++) {
            reads(opens[i].repeat(5) + "!" + closes[i].repeat(5), 6);
            reads(opens[i].repeat(6) + "!" + closes[i].repeat(6), 7);
            for (int k = 0; k < 4; k++) {
                int seventh = 6 * opens[i].length() + opens[k].length() - 1;
                faults(opens[i].repeat(6) + opens[k] + "!" + closes[k] + closes[i].repeat(6), seventh);
                faults(opens[i].repeat(6) + opens[k], seventh);
                reads(opens[i].repeat(5) + opens[k] + "!" + closes[k] + closes[i].repeat(5), 7);
                reads(opens[i].repeat(6) + "!" + closes[i] + ";" + opens[k] + "!" + closes[k] + closes[i].repeat(5), 9);
            }
        }
        faults("((((((", 6);
        faults("((((((!;(", 8);
        faults("((((((!|(", 8);
        faults("((((((~", 7);
        faults("((((((~!", 7);
        faults("((((((2*", 8);
        faults("((((((2*!", 8);
        faults("[(~[2*(([(", 9);
        reads("((((((a?{1,2,3,4,5,6}))))))", 7);
        reads("((((((2*3=6))))))", 7);
        reads("(!);(!);(!);(!);(!);(!);((((((!))))))", 19);
    }

    /** "40 S at most, those within, too", "the place of a 41st S" */
    private static void statements() {
        reads(THIRTY_NINE, 39);
        reads(FORTY, 40);
        faults(FORTY + ";!", 80);
        for (String another : new String[] {"!", "a:1", "a?1,2", "1=1", "(!)", "[!]", "~[!]", "2*(!)", "", "z", ";"}) {
            faults(FORTY + ";" + another, 80);
            faults("(" + THIRTY_NINE + ";" + another, 79);
            faults("(" + THIRTY_NINE + "|" + another, 79);
        }
        String[] within = {"(!)", "[!]", "~[!]", "2*(!)"};
        for (String one : within) {
            int place = 78 + one.indexOf('!');
            reads(THIRTY_NINE.substring(2) + ";" + one, 40);
            faults(THIRTY_NINE + ";" + one, place);
            faults(THIRTY_NINE + ";" + one.substring(0, one.indexOf('!')), place);
        }
        reads("(" + THIRTY_NINE + ")", 40);
        faults("(" + FORTY + ")", 79);
        reads("[" + THIRTY_NINE + "]", 40);
        reads("~[" + THIRTY_NINE + "]", 40);
        reads("2*(" + THIRTY_NINE + ")", 40);
        faults("2*(" + FORTY + ")", 81);
        faults("((((((" + "!;".repeat(34) + "(", 74);
        faults(FORTY + "!", 79);
        faults(FORTY + ")", 79);
    }

    /** What is wrong first is told, whatever comes behind it. */
    private static void firstFault() {
        faults("a:1;b;c;", 5);
        faults("a?{1,2,3,4,5,6,7};(((((((", 14);
        faults("(((((((!|!|!|!|!|!|!", 6);
        faults("a:1000;b:2000", 5);
        faults("(!|!|!|!|!|!|!;(((((((", 12);
    }

    /** "THE TAPE, which is empty then": nothing of a text, whole or not, stays in the way of the next. */
    private static void manyTexts() {
        String sum = "a:" + "1+".repeat(40) + "1";
        String open = "((((((";
        String parts = "a?{1,2,3,4,5,6,7}";
        rowsAfter("sums", sum, sum, sum, sum);
        rowsAfter("brackets", open, "[[[[[[", "2*(2*(2*(", "~[~[~[");
        rowsAfter("S's", "!;".repeat(39), "!;".repeat(39), "(!;".repeat(6));
        rowsAfter("E's", parts, parts, "a?{1,2,3,4,5,6", parts, parts, parts, parts, parts, parts, parts, parts, parts);
        rowsAfter("P's", "(!|!|!|!|!|!|", "(!|!|!|!|!|!|", "(!|!|!|!|!|!|");
        rowsAfter("ends", "a", "a:", "a?", "a?1", "a?1,", "-", "2", "2*", "~", "", "!;");
    }

    private static void rowsAfter(String title, String... texts) {
        TrailSearch x = new TrailSearch();
        int calls = 0;
        for (String text : texts) {
            Checks.feed(x, text);
            x.program(0);
            calls += text.length() + 1;
        }
        String text = "(a:1|b:2;a:b+b*b-1|!);[c?{a,b,7}];2*(d:d+1)";
        c.due("after " + title + ": calls", Math.min(calls, 400), calls);
        c.due("after " + title + ": " + text, Checks.program(x, 1, text), 9);
        c.due("after " + title + ": all of it", x.begin(0, 1, 0) + x.all(0, 99), 4);
        int[] due = {1, 0, 1, 2, 5, 2, 5, 2, 0, 0, 0, 2};
        for (int i = 0; i < 12; i++) {
            c.due("after " + title + ": answer " + i / 4 + ", " + i % 4, x.answer(0, i / 4, i % 4), due[i]);
        }
    }

    /** "PROGRAMS 0 .. 3; THE COST of each: .., or none (0)" */
    private static void programsAndCosts() {
        Rows.run(c, "four programs, each with a cost of its own", "program 0 a:1 = 1", "program 1 a:2;b:1 = 2",
            "program 2 a:3;b:1;c:1 = 3", "program 3 a:4;b:1;c:1;d:1 = 4", "count 0 = 4", "cost 1 a+10 = 1",
            "cost 2 a+20 = 1", "cost 3 a+30 = 1", "begin 0 0 0 = 1", "begin 1 1 0 = 1", "begin 2 2 0 = 1",
            "begin 3 3 0 = 1", "go 0 9 = ANSWERED", "go 1 9 = ANSWERED", "go 2 9 = ANSWERED", "go 3 9 = ANSWERED",
            "answer 0 0 0 = 1", "answer 1 0 0 = 2", "answer 2 0 0 = 3", "answer 3 0 0 = 4", "answer 0 0 10 = 0",
            "answer 1 0 10 = 12", "answer 2 0 10 = 23", "answer 3 0 10 = 34");
    }
}
