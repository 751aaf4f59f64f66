import java.util.Random;

/** Many texts, each on a new object, compared with Model: lines, error code and position, dots, settings and LOSS. */
final class TextTest {

    private static final int TEXTS = 40000;

    public static void main(String[] args) {
        Random random = new Random(77);
        Texts texts = new Texts(random);
        int[] seen = new int[6];
        for (int i = 0; i < TEXTS; i++) {
            String text = texts.any();
            DotRuns real = new DotRuns();
            Model model = new Model();
            Calls.put(real, text);
            model.text.append(text);
            String told = "text <" + text + ">: ";
            Check.due(told + "load", real.load(), model.load());
            Check.due(told + "errorCode", real.errorCode(), model.faultCode);
            Check.due(told + "errorPosition", real.errorPosition(), model.faultPosition);
            Check.due(told + "text behind it", real.truncateText(0), 0);
            Check.argument(told + "no text is left", () -> real.truncateText(1));
            compare(told, real, model);
            seen[model.faultCode]++;
        }
        for (int code = 0; code < seen.length; code++) {
            Check.due("texts enough of code " + code, seen[code] > 300 ? 1 : 0, 1);
        }
        Check.end("TextTest");
    }

    private static void compare(String told, DotRuns real, Model model) {
        for (int what = 0; what <= 12; what++) {
            Check.due(told + "count " + what, real.count(what), model.count(what));
        }
        for (int line = 0; line < model.s.lines.size(); line++) {
            for (int at = 0; at < model.s.width; at++) {
                Check.due(told + "dot", real.dot(line, at), model.dot(line, at));
            }
        }
        for (int number = 0; number < 20; number++) {
            Check.due(told + "loss", real.lose(number, 0), model.s.loss[number]);
        }
    }
}
