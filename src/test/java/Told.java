/** An object that is told its calls by name; it is used for no more calls than the document allows. */
final class Told {
    static final int CALLS_MOST = 512;

    private final TrailSearch x = new TrailSearch();
    private int calls = 0;

    boolean hasRoom(int more) {
        return calls + more <= CALLS_MOST;
    }

    int ask(String name, int... n) {
        if (!hasRoom(1)) {
            throw new IllegalStateException("an object is used for " + CALLS_MOST + " calls at most");
        }
        calls++;
        switch (n.length) {
            case 1:
                return askOne(name, n[0]);
            case 2:
                return askTwo(name, n[0], n[1]);
            case 3:
                return askThree(name, n[0], n[1], n[2]);
            default:
                throw new IllegalArgumentException("no call: " + name);
        }
    }

    private int askOne(String name, int a) {
        switch (name) {
            case "feed":
                return x.feed(a);
            case "program":
                return x.program(a);
            case "cost":
                return x.cost(a);
            case "next":
                return x.next(a);
            case "unlike":
                return x.unlike(a);
            case "count":
                return x.count(a);
            default:
                throw new IllegalArgumentException("no call of one number: " + name);
        }
    }

    private int askTwo(String name, int a, int b) {
        switch (name) {
            case "go":
                return x.go(a, b);
            case "all":
                return x.all(a, b);
            case "of":
                return x.of(a, b);
            case "ordered":
                return x.ordered(a, b);
            case "common":
                return x.common(a, b);
            case "turn":
                return x.turn(a, b);
            case "copy":
                return x.copy(a, b);
            default:
                throw new IllegalArgumentException("no call of two numbers: " + name);
        }
    }

    private int askThree(String name, int a, int b, int c) {
        switch (name) {
            case "begin":
                return x.begin(a, b, c);
            case "answer":
                return x.answer(a, b, c);
            case "open":
                return x.open(a, b, c);
            case "would":
                return x.would(a, b, c);
            default:
                throw new IllegalArgumentException("no call of three numbers: " + name);
        }
    }
}
