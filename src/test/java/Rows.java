import java.util.ArrayList;
import java.util.Arrays;
import java.util.List;

/**
 * Tables of calls, each on a new object: a row is a call, its numbers and the answer that is due.
 *
 * <pre>
 * go 0 5 = PAUSED         one call
 * 3x go 0 1 = PAUSED      three of them
 * of 0 : 1 0 5            of 0 0 = 1, of 0 1 = 0, of 0 2 = 5
 * text a?1,2              each byte is fed, and taken
 * program 0 a?1,2 = 1     its bytes are fed before (cost, too)
 * program 0 a?1,2 = fine  any answer but a refusal
 * </pre>
 *
 * Whatever a row says is refused must change nothing, and the runner looks at that by itself.
 */
final class Rows {
    private static final int FINE = Integer.MAX_VALUE - 1;

    private final Checks checks;
    private final String title;
    private final List<Row> rows = new ArrayList<>();

    private Rows(Checks checks, String title, String... lines) {
        this.checks = checks;
        this.title = title;
        for (String line : lines) {
            rows.add(new Row(line));
        }
    }

    /** A table that begins with a PROGRAM 0 and a SEARCH 0 of it. */
    static void search(Checks checks, String title, String text, int strategy, String... lines) {
        List<String> all = new ArrayList<>(List.of("program 0 " + text + " = fine", "begin 0 0 " + strategy + " = 1"));
        all.addAll(Arrays.asList(lines));
        run(checks, title + ": " + text + " by " + strategy, all.toArray(new String[0]));
    }

    /** The same with a COST. */
    static void priced(Checks checks, String title, String text, String cost, int strategy, String... lines) {
        List<String> all = new ArrayList<>(List.of("program 0 " + text + " = fine", "cost 0 " + cost + " = 1",
            "begin 0 0 " + strategy + " = 1"));
        all.addAll(Arrays.asList(lines));
        run(checks, title + ": " + text + ", cost " + cost + ", by " + strategy, all.toArray(new String[0]));
    }

    static void run(Checks checks, String title, String... lines) {
        Rows table = new Rows(checks, title, lines);
        Told told = new Told();
        for (int i = 0; i < table.rows.size(); i++) {
            Row row = table.rows.get(i);
            row.check(checks, title, told);
            if (row.isRefused()) {
                table.looksUnchanged(i);
            }
        }
    }

    /** Two objects are told all that comes before a refused call, one of them that call, too. */
    private void looksUnchanged(int refused) {
        String what = title + ": " + rows.get(refused).line + " changed something: ";
        List<int[]> none = new ArrayList<>();
        Told one = after(refused, false);
        List<String> questions = new ArrayList<>(List.of("count 0", "count 1", "count 2", "count 3"));
        for (int s = 0; s < 4; s++) {
            addQuestions(questions, s, one);
        }
        compare(what, refused, questions);
        List<String> onwards = new ArrayList<>();
        List<String> anew = new ArrayList<>();
        for (int s = 0; s < 4; s++) {
            onwards.addAll(series("all " + s + " 300", "next " + s, "of " + s, 9));
            anew.addAll(series("begin " + s + " " + s + " 0", "all " + s + " 300", "of " + s, 3));
            anew.addAll(series("ordered " + s + " 1", "unlike " + s, "answer " + s + " 0", 12));
        }
        compare(what, refused, onwards);
        compare(what, refused, anew);
        compare(what, refused, series("program 3", "begin 3 3 0", "of 3", 3));
        compare(what, refused, series("program 0", "all 0 300", "answer 0 0", 12));
        compare(what, refused, List.of("cost 0", "begin 0 0 0", "all 0 300", "answer 0 0 10"));
    }

    private static List<String> series(String first, String second, String third, int many) {
        List<String> all = new ArrayList<>(List.of(first, second));
        for (int i = 0; i < many; i++) {
            all.add(third + " " + i);
        }
        return all;
    }

    private static void addQuestions(List<String> questions, int s, Told told) {
        questions.add("next " + s);
        questions.add("unlike " + s);
        for (int what = 0; what <= 9; what++) {
            questions.add("of " + s + " " + what);
        }
        for (int other = 0; other < 4; other++) {
            questions.add("common " + s + " " + other);
        }
        int answers = told.ask("of", s, 1);
        int open = told.ask("of", s, 3);
        for (int what = 0; what < 12; what++) {
            for (int i = 0; i <= answers; i += Math.max(1, answers / 4)) {
                questions.add("answer " + s + " " + i + " " + what);
            }
            for (int i = 0; i <= open; i += Math.max(1, open / 4)) {
                questions.add("open " + s + " " + i + " " + what);
            }
        }
    }

    private void compare(String what, int refused, List<String> questions) {
        Told without = after(refused, false);
        Told with = after(refused, true);
        for (String question : questions) {
            if (!without.hasRoom(1) || !with.hasRoom(1)) {
                without = after(refused, false);
                with = after(refused, true);
            }
            Row row = new Row(question + " = 0");
            checks.due(what + question, row.ask(with, 0), row.ask(without, 0));
        }
    }

    private Told after(int refused, boolean itself) {
        Told told = new Told();
        for (int i = 0; i < refused || itself && i == refused; i++) {
            if (itself || !rows.get(refused).isFault() || !isOnTape(i, refused)) {
                rows.get(i).tell(told);
            }
        }
        return told;
    }

    /** Whether a row only fed what is on THE TAPE yet when a later row comes. */
    private boolean isOnTape(int row, int later) {
        for (int i = row + 1; i < later; i++) {
            if (rows.get(i).empties()) {
                return false;
            }
        }
        return rows.get(row).isFeeding();
    }

    /** One row of a table. */
    private static final class Row {
        private final String line;
        private final String name;
        private final int[] numbers;
        private final String text;
        private final int times;
        private final boolean isSeries;
        private final int[] dues;

        Row(String line) {
            this.line = line;
            this.isSeries = line.contains(" : ");
            String[] sides = line.split(isSeries ? " : " : " = ");
            List<String> words = new ArrayList<>(Arrays.asList(sides[0].split(" ")));
            this.times = words.get(0).matches("[0-9]+x") ? number(words.remove(0).replace("x", "")) : 1;
            this.name = words.remove(0);
            boolean hasText = name.equals("text") || words.size() > 1 && (name.equals("program") || name.equals("cost"));
            this.text = hasText ? words.remove(words.size() - 1) : "";
            this.numbers = numbers(words);
            this.dues = sides.length > 1 ? numbers(Arrays.asList(sides[1].split(" "))) : new int[0];
            if (dues.length == 0 && !name.equals("text")) {
                throw new IllegalArgumentException("no answer is due: " + line);
            }
            if (!text.isEmpty() && dues.length > 0 && dues[0] <= -2001) {
                throw new IllegalArgumentException("the tape stays by this, so its text is a row before: " + line);
            }
        }

        private static int[] numbers(List<String> words) {
            int[] numbers = new int[words.size()];
            for (int i = 0; i < numbers.length; i++) {
                numbers[i] = number(words.get(i));
            }
            return numbers;
        }

        private static int number(String word) {
            List<String> names = List.of("ANSWERED", "PAUSED", "DONE", "CROWDED", "FILLED");
            switch (word) {
                case "BAD":
                    return -2001;
                case "NOT":
                    return -2002;
                case "STATE":
                    return -2003;
                case "MIN":
                    return Integer.MIN_VALUE;
                case "MAX":
                    return Integer.MAX_VALUE;
                case "fine":
                    return FINE;
                default:
                    return names.contains(word) ? names.indexOf(word) + 1 : Integer.parseInt(word);
            }
        }

        /** A FAULT is a refusal of the text, too, by which THE TAPE alone is another one. */
        boolean isFault() {
            return empties() && dues[0] <= -100;
        }

        boolean empties() {
            return (name.equals("program") || name.equals("cost")) && dues[0] > -2001;
        }

        boolean isRefused() {
            return times == 1 && !isSeries && dues.length > 0 && (isFault() || dues[0] <= -2001);
        }

        boolean isFeeding() {
            return name.equals("text") || name.equals("feed");
        }

        void check(Checks checks, String title, Told told) {
            for (int i = 0; i < text.length(); i++) {
                int got = told.ask("feed", text.charAt(i));
                checks.due(title + ": " + line + ", a byte is taken", got < 0 ? got : 1, 1);
            }
            for (int i = 0; !name.equals("text") && i < times * dues.length; i++) {
                int got = ask(told, i);
                int due = dues[i % dues.length];
                checks.due(title + ": " + line + (dues.length > 1 ? ", the one of " + i : ""), got,
                    due == FINE ? Math.max(got, 0) : due);
            }
        }

        void tell(Told told) {
            // A FAULT leaves an empty tape behind, so the text goes with the call or not at all.
            for (int i = 0; i < text.length(); i++) {
                told.ask("feed", text.charAt(i));
            }
            for (int i = 0; !name.equals("text") && i < times * dues.length; i++) {
                ask(told, i);
            }
        }

        int ask(Told told, int i) {
            int[] all = Arrays.copyOf(numbers, numbers.length + (isSeries ? 1 : 0));
            if (isSeries) {
                all[numbers.length] = i;
            }
            return told.ask(name, all);
        }
    }
}
