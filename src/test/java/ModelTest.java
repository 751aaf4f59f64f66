import java.util.Random;

/** Long random runs of calls, the same on DotRuns and on Model, with texts that are right, nearly right and wrong. */
final class ModelTest {

    private static final int RUNS = 1500;
    private static final int CALLS = 512;

    /** What a call answers, or the exception that it throws. */
    private static String answer(Check.Call call) {
        try {
            return "" + call.answer();
        } catch (RuntimeException e) {
            return e.getClass().getName();
        }
    }

    public static void main(String[] args) {
        for (int seed = 1; seed <= RUNS; seed++) {
            new ModelTest(seed).goThrough();
        }
        Check.end("ModelTest");
    }

    private final Random random;
    private final int seed;
    private final DotRuns real = new DotRuns();
    private final Model model = new Model();
    private int calls = 0;

    private ModelTest(int seed) {
        this.seed = seed;
        random = new Random(seed);
    }

    private void same(String call, Check.Call one, Check.Call other) {
        calls++;
        Check.due("seed " + seed + ", call " + calls + ": " + call, answer(one), answer(other));
    }

    /** Mostly in range, sometimes just outside, seldom far outside. */
    private int pick(int least, int most) {
        int kind = random.nextInt(40);
        if (kind == 0) {
            return least - 1;
        }
        if (kind == 1) {
            return most + 1;
        }
        if (kind == 2) {
            int[] far = {Integer.MIN_VALUE, Integer.MAX_VALUE, -40, 64, 1 << 20, random.nextInt()};
            return far[random.nextInt(far.length)];
        }
        return most < least ? least : (int) (least + (long) (random.nextDouble() * ((long) most - least + 1)));
    }

    private int anyLine() {
        return pick(0, model.s.lines.size() - 1);
    }

    private void goThrough() {
        while (calls < CALLS) {
            int kind = random.nextInt(100);
            if (kind < 2 && calls + 240 < CALLS) {
                loadText();
            } else if (kind < 40) {
                edit(random.nextInt(9));
            } else if (kind < 48) {
                keep(random.nextInt(3));
            } else if (kind < 75) {
                ask(random.nextInt(9));
            } else {
                send(random.nextInt(12));
            }
        }
    }

    private void edit(int kind) {
        int w = model.s.width;
        int a = anyLine();
        int b = anyLine();
        int from = pick(0, w);
        int to = pick(from, w);
        int value = pick(0, 9);
        switch (kind) {
            case 0:
                int what = pick(0, 5);
                same("set " + what + " " + value, () -> real.set(what, value), () -> model.set(what, value));
                break;
            case 1:
                int line = pick(0, random.nextBoolean() ? model.s.lines.size() : 19);
                int times = pick(0, random.nextBoolean() ? 1 : 5);
                same("lose " + line + " " + times, () -> real.lose(line, times), () -> model.lose(line, times));
                break;
            case 2:
                same("addLine " + from + " " + to, () -> real.addLine(from, to), () -> model.addLine(from, to));
                break;
            case 3:
            case 4:
                int colour = pick(0, 1);
                same("paint " + a + " " + from + " " + to + " " + colour, () -> real.paint(a, from, to, colour),
                    () -> model.paint(a, from, to, colour));
                break;
            case 5:
                int by = random.nextBoolean() ? pick(-4, 4) : pick(-40, 40);
                same("shift " + a + " " + by, () -> real.shift(a, by), () -> model.shift(a, by));
                break;
            case 6:
                int place = pick(0, model.s.lines.size());
                same("copyLine " + a + " " + place, () -> real.copyLine(a, place), () -> model.copyLine(a, place));
                break;
            case 7:
                if (random.nextInt(3) == 0) {
                    same("removeLine " + a, () -> real.removeLine(a), () -> model.removeLine(a));
                } else {
                    same("invert " + a, () -> real.invert(a), () -> model.invert(a));
                }
                break;
            default:
                same("swap " + a + " " + b, () -> real.swap(a, b), () -> model.swap(a, b));
                break;
        }
    }

    private void keep(int kind) {
        int slot = pick(0, 1);
        if (kind == 0) {
            for (int i = random.nextInt(random.nextInt(6) == 0 ? 13 : 3); i >= 0; i--) {
                same("undo", () -> real.undo(), () -> model.undo());
            }
        } else if (kind == 1) {
            same("save " + slot, () -> {
                real.save(slot);
                return 0;
            }, () -> {
                model.save(slot);
                return 0;
            });
        } else if (random.nextInt(3) == 0) {
            same("restore " + slot, () -> {
                real.restore(slot);
                return 0;
            }, () -> {
                model.restore(slot);
                return 0;
            });
        }
    }

    private void ask(int kind) {
        int a = anyLine();
        int index = random.nextInt(3) == 0 ? pick(0, 41) : pick(0, 6);
        int colour = pick(0, 1);
        switch (kind) {
            case 0:
                int what = pick(0, 12);
                same("count " + what, () -> real.count(what), () -> model.count(what));
                break;
            case 1:
                int at = pick(0, model.s.width - 1);
                same("dot " + a + " " + at, () -> real.dot(a, at), () -> model.dot(a, at));
                break;
            case 2:
                int number = pick(0, 11);
                same("line " + a + " " + number, () -> real.line(a, number), () -> model.line(a, number));
                break;
            case 3:
                same("run " + a + " " + index, () -> real.run(a, index), () -> model.run(a, index));
                break;
            case 4:
                int part = pick(0, 3);
                same("mode " + a + " " + index + " " + part, () -> real.mode(a, index, part),
                    () -> model.mode(a, index, part));
                break;
            case 5:
                same("change " + a + " " + index, () -> real.change(a, index), () -> model.change(a, index));
                break;
            case 6:
                same("longest " + colour, () -> real.longest(colour), () -> model.longest(colour));
                break;
            case 7:
                int length = random.nextBoolean() ? pick(1, 40) : pick(1, 4);
                same("runsOf " + colour + " " + length, () -> real.runsOf(colour, length),
                    () -> model.runsOf(colour, length));
                break;
            default:
                int other = pick(-1, model.s.lines.size() - 1);
                same("readBelow " + a + " " + other, () -> real.readBelow(a, other), () -> model.readBelow(a, other));
                break;
        }
    }

    private void send(int kind) {
        int a = anyLine();
        int at = pick(0, model.s.width - 1);
        switch (kind) {
            case 0:
                int what = pick(0, 9);
                same("sent " + what, () -> real.sent(what), () -> model.sent(what));
                break;
            case 1:
            case 2:
                int number = pick(0, 4);
                same("sentLine " + a + " " + number, () -> real.sentLine(a, number), () -> model.sentLine(a, number));
                break;
            case 3:
                same("received " + a + " " + at, () -> real.received(a, at), () -> model.received(a, at));
                break;
            case 4:
                int part = pick(0, 2);
                same("harm " + a + " " + part, () -> real.harm(a, part), () -> model.harm(a, part));
                break;
            case 5:
                same("worst", () -> real.worst(), () -> model.worst());
                break;
            case 6:
                same("bestEvery", () -> real.bestEvery(), () -> model.bestEvery());
                break;
            case 7:
                same("needsSteps", () -> real.needsSteps(), () -> model.needsSteps());
                break;
            case 8:
                same("perDot", () -> real.perDot(), () -> model.perDot());
                break;
            case 9:
                same("byAbove", () -> real.byAbove(), () -> model.byAbove());
                break;
            default:
                if (kind == 10) {
                    same("write " + a, () -> real.write(a), () -> model.write(a));
                } else {
                    same("show " + a, () -> real.show(a), () -> model.show(a));
                }
                for (int i = 0; i < 3; i++) {
                    int index = pick(0, model.out.length());
                    same("output " + index, () -> real.output(index), () -> model.output(index));
                }
                break;
        }
    }

    private void loadText() {
        String text = new Texts(random).any();
        while (model.text.length() > 0 && random.nextInt(8) > 0) {
            same("truncateText 0", () -> real.truncateText(0), () -> model.truncateText(0));
        }
        int length = model.text.length() + text.length();
        for (int i = 0; i < text.length(); i += 4) {
            int four = 0;
            for (int k = i; k < i + 4; k++) {
                four = four << 8 | (k < text.length() ? text.charAt(k) : 'x');
            }
            int bytes = four;
            same("appendText " + bytes, () -> real.appendText(bytes), () -> model.appendText(bytes));
        }
        int cut = random.nextInt(20) == 0 ? pick(0, model.text.length()) : Math.min(length, model.text.length());
        same("truncateText " + cut, () -> real.truncateText(cut), () -> model.truncateText(cut));
        String told = model.text.toString();
        same("load of <" + told + ">", () -> real.load(), () -> model.load());
        same("errorCode of <" + told + ">", () -> real.errorCode(), () -> model.faultCode);
        same("errorPosition of <" + told + ">", () -> real.errorPosition(), () -> model.faultPosition);
        for (int line = 0; line < model.s.lines.size(); line++) {
            for (int at = 0; at < model.s.width && line == model.s.lines.size() - 1; at++) {
                int l = line;
                int p = at;
                same("dot of <" + told + ">", () -> real.dot(l, p), () -> model.dot(l, p));
            }
        }
    }
}
