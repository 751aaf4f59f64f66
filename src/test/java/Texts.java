import java.util.List;
import java.util.Random;

/** Makes texts: right ones, right ones with a small harm, and ones of random tokens. */
final class Texts {

    private static final String[] PIECES = {"wide", "line", "alone", "above", "set", "loss", "p", "v", "h", "-", ";",
        "0", "1", "2", "3", "4", "8", "16", "17", "20", "40", "41", "00003", "99999999999999999999", ".", "#",
        "........", ".##.....#######.", "pv", "P", "\t", "\r", "$", "\u00e9", "\u0000", "wides", ";;", "v-1", "h2 3",
        "p", ";", " ", "\n"};

    private final Random random;

    Texts(Random random) {
        this.random = random;
    }

    String any() {
        int kind = random.nextInt(10);
        String text = kind == 0 ? jumble() : right();
        for (int i = kind < 6 ? random.nextInt(3) : 0; i > 0; i--) {
            text = harmed(text);
        }
        return text.length() > 900 ? text.substring(0, 900) : text;
    }

    private String space() {
        return random.nextInt(12) == 0 ? "\n" : random.nextInt(10) == 0 ? "  " : " ";
    }

    private String jumble() {
        StringBuilder text = new StringBuilder();
        for (int i = random.nextInt(20); i > 0; i--) {
            text.append(PIECES[random.nextInt(PIECES.length)]).append(random.nextInt(3) == 0 ? "" : " ");
        }
        return text.toString();
    }

    private String right() {
        StringBuilder text = new StringBuilder();
        int width = 16;
        if (random.nextInt(4) > 0) {
            width = 8 + random.nextInt(33);
            text.append("wide").append(random.nextBoolean() ? " " : "").append(width).append(" ;");
        }
        int lines = random.nextInt(4) == 0 ? 20 + random.nextInt(3) : random.nextInt(10);
        int[] above = new int[width];
        int loud = random.nextInt(10) + 1;
        for (int i = 0; i < lines; i++) {
            int[] dots = changed(above, loud);
            text.append(space()).append(told(dots, above)).append(random.nextInt(6) == 0 ? space() : "").append(";");
            above = dots;
            if (random.nextInt(3) == 0) {
                text.append(setting());
            }
        }
        return text.append(random.nextInt(4) == 0 ? "\n" : "").toString();
    }

    private String setting() {
        if (random.nextBoolean()) {
            return "loss " + random.nextInt(20) + space() + random.nextInt(6) + ";";
        }
        int what = random.nextInt(6);
        int value = Model.LEAST[what] + random.nextInt(Model.MOST[what] - Model.LEAST[what] + 1);
        return "set " + what + space() + value + ";";
    }

    private int[] changed(int[] above, int loud) {
        int[] dots = above.clone();
        for (int i = random.nextInt(loud); i >= 0; i--) {
            int from = random.nextInt(dots.length);
            int to = Math.min(dots.length, from + 1 + random.nextInt(6));
            int colour = random.nextInt(2);
            for (int at = from; at < to; at++) {
                dots[at] = colour;
            }
        }
        return dots;
    }

    private String told(int[] dots, int[] above) {
        StringBuilder text = new StringBuilder();
        int kind = random.nextInt(5);
        if (random.nextInt(25) == 0) {
            return guessed(dots.length);
        }
        if (kind == 0) {
            text.append("line ");
            for (int dot : dots) {
                text.append(dot == 0 ? '.' : '#');
            }
        } else if (kind == 1) {
            text.append("alone");
            for (int n : Model.alone(dots)) {
                text.append(space()).append(n);
            }
        } else {
            text.append("above");
            List<int[]> modes = Model.above(dots, above);
            for (int[] m : modes) {
                String sign = m[1] < 0 ? "-" : "";
                text.append(space()).append(m[0] == 0 ? "p" : m[0] == 1 ? "v" + sign + Math.abs(m[1])
                    : "h" + m[1] + " " + m[2]);
            }
        }
        return text.toString();
    }

    /** A code that may well not be readable, or not end at the width. */
    private String guessed(int width) {
        boolean alone = random.nextInt(4) == 0;
        StringBuilder text = new StringBuilder(alone ? "alone" : "above");
        for (int i = random.nextInt(6); i > 0; i--) {
            int n = random.nextInt(random.nextInt(5) == 0 ? width + 2 : 8);
            int kind = random.nextInt(3);
            int by = random.nextInt(20) == 0 ? 4 : random.nextInt(4);
            text.append(alone ? " " + n : kind == 0 ? " p" : kind == 1 ? random.nextBoolean() ? " v" + by : " v-" + by
                : " h" + n + " " + random.nextInt(8));
        }
        return text.append(alone || random.nextBoolean() ? "" : " v0").toString();
    }

    private String harmed(String text) {
        int at = random.nextInt(text.length() + 1);
        String before = text.substring(0, at);
        String behind = text.substring(at);
        switch (random.nextInt(5)) {
            case 0:
                return before;
            case 1:
                return before + (behind.isEmpty() ? "" : behind.substring(1));
            case 2:
                return before + (char) random.nextInt(256) + behind;
            case 3:
                return before + (behind.isEmpty() ? "" : random.nextInt(10) + behind.substring(1));
            default:
                return before + PIECES[random.nextInt(PIECES.length)] + behind;
        }
    }
}
