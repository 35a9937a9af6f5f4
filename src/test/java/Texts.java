import java.util.Random;

/** Texts of programs and costs made by chance; some are spoilt. */
final class Texts {
    private final Random random;
    private final StringBuilder text = new StringBuilder();
    private final int taste;
    private int open = 0;

    Texts(Random random) {
        this.random = random;
        this.taste = random.nextInt(4);
    }

    String program() {
        p(2 + random.nextInt(taste == 3 ? 8 : 4));
        if (random.nextInt(8) == 0) {
            spoil();
        }
        return cut(text.toString());
    }

    String cost() {
        e(2);
        if (random.nextInt(10) == 0) {
            spoil();
        }
        return cut(text.toString());
    }

    private static String cut(String text) {
        return text.length() > 150 ? text.substring(0, 150) : text;
    }

    private void spoil() {
        String signs = "abchi0129:?,;{}()[]|~!*+-<=># ";
        for (int i = random.nextInt(3); i >= 0 && text.length() > 0; i--) {
            int place = random.nextInt(text.length());
            char sign = signs.charAt(random.nextInt(signs.length()));
            switch (random.nextInt(4)) {
                case 0:
                    text.deleteCharAt(place);
                    break;
                case 1:
                    text.setCharAt(place, sign);
                    break;
                case 2:
                    text.insert(place, sign);
                    break;
                default:
                    text.setLength(place);
            }
        }
    }

    private void p(int most) {
        int n = 1 + random.nextInt(most);
        for (int i = 0; i < n; i++) {
            if (i > 0) {
                text.append(';');
            }
            s();
        }
    }

    private void s() {
        boolean flat = open >= 6 || text.length() > 100;
        int kind = random.nextInt(flat ? 10 : 20);
        switch (kind) {
            case 0: case 1:
                variable();
                text.append(':');
                e(2);
                break;
            case 2: case 3: case 4: case 5:
                variable();
                text.append('?');
                if (random.nextInt(6) == 0) {
                    e(1);
                    text.append(',');
                    e(1);
                } else {
                    text.append(random.nextInt(3)).append(',').append(1 + random.nextInt(4));
                }
                break;
            case 6:
                variable();
                text.append("?{");
                for (int i = random.nextInt(6); i >= 0; i--) {
                    e(1);
                    text.append(i > 0 ? "," : "}");
                }
                break;
            case 7: case 8:
                e(2);
                text.append("<=>#<>##".charAt(random.nextInt(8)));
                e(2);
                break;
            case 9:
                if (random.nextInt(3) > 0) {
                    text.append('!');
                } else {
                    variable();
                    text.append(":").append("a+1");
                }
                break;
            case 10: case 11: case 12:
                bracket("(", ")", 1 + random.nextInt(4));
                break;
            case 13: case 14:
                bracket("[", "]", 1);
                break;
            case 15: case 16: case 17:
                bracket("~[", "]", 1);
                break;
            default:
                bracket((1 + random.nextInt(random.nextInt(4) == 0 ? 9 : 3)) + "*(", ")", 1);
        }
    }

    private void bracket(String begin, String end, int parts) {
        text.append(begin);
        open++;
        for (int i = 0; i < parts; i++) {
            if (i > 0) {
                text.append('|');
            }
            p(3);
        }
        open--;
        text.append(end);
    }

    private void variable() {
        text.append((char) ('a' + random.nextInt(taste == 0 ? 8 : 3)));
    }

    private void e(int most) {
        int n = 1 + random.nextInt(most);
        for (int i = 0; i < n; i++) {
            if (i > 0) {
                text.append("+-*+".charAt(random.nextInt(4)));
            }
            if (random.nextInt(10) == 0) {
                text.append('-');
            }
            if (random.nextInt(5) < 3) {
                variable();
            } else {
                text.append(random.nextInt(12) == 0 ? random.nextInt(1000) : random.nextInt(5));
            }
        }
    }
}
