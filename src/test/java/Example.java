/** The example of README.md: two numbers of 1 .. 3, the first one below the second. */
public final class Example {
    public static void main(String[] args) {
        TrailSearch x = new TrailSearch();

        // A text comes byte by byte to THE TAPE; a program, or a cost, is made of all that is on it.
        feed(x, "a?1,3;b?1,3;a<b");
        System.out.println("statements: " + x.program(0));
        feed(x, "a-b");
        System.out.println("cost: " + x.cost(0));

        // Search 0 is begun of program 0, by strategy 0: the youngest choice point first.
        System.out.println("begun: " + x.begin(0, 0, 0));

        // It is gone on with by 6 steps a call, till it neither answered nor paused.
        int came = x.go(0, 6);
        while (came == TrailSearch.ANSWERED || came == TrailSearch.PAUSED) {
            if (came == TrailSearch.ANSWERED) {
                System.out.println("an answer: " + told(x, x.of(0, 1) - 1));
            } else {
                System.out.println("paused behind " + x.of(0, 2) + " steps, open: " + x.of(0, 3));
            }
            came = x.go(0, 6);
        }
        System.out.println("done: " + (came == TrailSearch.DONE));

        // The least cost first.
        for (int i = 0; i < x.of(0, 1); i++) {
            System.out.println("place " + i + ": " + told(x, x.ordered(0, i)));
        }

        // Refused calls answer BAD, NOT or STATE, and change nothing.
        System.out.println("search 4 is none such: " + (x.of(4, 0) == TrailSearch.BAD));
        System.out.println("a fourth answer did not come: " + (x.answer(0, 3, 0) == TrailSearch.NOT));
        System.out.println("what is done can't go on: " + (x.go(0, 6) == TrailSearch.STATE));

        // A text that is no program answers -100 less the place of its first wrong byte.
        feed(x, "a?1,3;b&2");
        System.out.println("wrong at place 7: " + x.program(0));
    }

    private static void feed(TrailSearch x, String text) {
        for (int i = 0; i < text.length(); i++) {
            x.feed(text.charAt(i));
        }
    }

    /** The i-th answer of search 0: the variables a and b, and its cost. */
    private static String told(TrailSearch x, int i) {
        return "a=" + x.answer(0, i, 0) + " b=" + x.answer(0, i, 1) + " cost=" + x.answer(0, i, 10);
    }
}
