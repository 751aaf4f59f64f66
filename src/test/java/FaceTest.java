import java.lang.reflect.Constructor;
import java.lang.reflect.Field;
import java.lang.reflect.Method;
import java.lang.reflect.Modifier;
import java.nio.file.Files;
import java.nio.file.Paths;
import java.util.ArrayList;
import java.util.Arrays;
import java.util.Collections;
import java.util.List;

/** The public face is that of the document and nothing more (LANGUAGE.md rule 1), and no forbidden word stands in it. */
final class FaceTest {

    private static final String[] FACE = {
        "int appendText(int) IllegalStateException", "int truncateText(int) IllegalArgumentException", "int load()",
        "int errorCode()", "int errorPosition()", "int count(int) IllegalArgumentException",
        "int dot(int,int) IndexOutOfBoundsException",
        "int line(int,int) IndexOutOfBoundsException IllegalArgumentException",
        "int run(int,int) IndexOutOfBoundsException",
        "int mode(int,int,int) IndexOutOfBoundsException IllegalArgumentException",
        "int change(int,int) IndexOutOfBoundsException", "int longest(int) IllegalArgumentException",
        "int runsOf(int,int) IllegalArgumentException", "int readBelow(int,int) IndexOutOfBoundsException",
        "int set(int,int) IllegalArgumentException",
        "int lose(int,int) IndexOutOfBoundsException IllegalArgumentException",
        "int addLine(int,int) IllegalArgumentException IllegalStateException",
        "int paint(int,int,int,int) IndexOutOfBoundsException IllegalArgumentException",
        "int shift(int,int) IndexOutOfBoundsException IllegalArgumentException",
        "int copyLine(int,int) IndexOutOfBoundsException IllegalStateException",
        "int removeLine(int) IndexOutOfBoundsException", "int invert(int) IndexOutOfBoundsException",
        "int swap(int,int) IndexOutOfBoundsException", "int sent(int) IllegalArgumentException",
        "int sentLine(int,int) IndexOutOfBoundsException IllegalArgumentException",
        "int received(int,int) IndexOutOfBoundsException",
        "int harm(int,int) IndexOutOfBoundsException IllegalArgumentException", "int worst()", "int bestEvery()",
        "int needsSteps()", "double perDot()", "float byAbove()", "int write(int) IndexOutOfBoundsException",
        "int show(int) IndexOutOfBoundsException", "int output(int)", "int undo()",
        "void save(int) IllegalArgumentException",
        "void restore(int) IllegalArgumentException IllegalStateException"
    };

    private static final String[] FORBIDDEN = {
        "import ", "package ", "finally", "synchronized", "assert", "->", "::", "catch", "toString", "hashCode",
        "Exact", "native", "System.", "Object", "Throwable", "instanceof"
    };

    private static String told(Method m) {
        StringBuilder text = new StringBuilder(m.getReturnType().getName() + " " + m.getName() + "(");
        for (Class<?> parameter : m.getParameterTypes()) {
            text.append(text.charAt(text.length() - 1) == '(' ? "" : ",").append(parameter.getName());
        }
        text.append(")");
        for (Class<?> exception : m.getExceptionTypes()) {
            text.append(" ").append(exception.getSimpleName());
        }
        return text.toString();
    }

    public static void main(String[] args) throws Exception {
        List<String> open = new ArrayList<>();
        List<String> openNames = new ArrayList<>();
        for (Method m : DotRuns.class.getDeclaredMethods()) {
            if (!Modifier.isPrivate(m.getModifiers())) {
                open.add(told(m));
                openNames.add(m.getName());
                Check.due(m.getName() + " is public", Modifier.isPublic(m.getModifiers()) ? 1 : 0, 1);
            }
        }
        List<String> want = new ArrayList<>(Arrays.asList(FACE));
        Collections.sort(open);
        Collections.sort(want);
        Check.due("the methods", open.toString(), want.toString());
        for (Class<?> c : withInner()) {
            for (Method m : c.getDeclaredMethods()) {
                if (c != DotRuns.class || Modifier.isPrivate(m.getModifiers())) {
                    Check.due(m + " has another name", openNames.contains(m.getName()) ? 1 : 0, 0);
                }
            }
            lookAtFields(c);
        }
        Check.due("public and final", DotRuns.class.getModifiers() & (Modifier.PUBLIC | Modifier.FINAL),
            Modifier.PUBLIC | Modifier.FINAL);
        Field none = DotRuns.class.getDeclaredField("NONE");
        Check.due("NONE", none.toString() + " = " + none.getInt(null), "public static final int DotRuns.NONE = -1");
        int constructors = 0;
        for (Constructor<?> c : DotRuns.class.getDeclaredConstructors()) {
            constructors++;
            Check.due("constructor", c.toString(), "public DotRuns()");
        }
        Check.due("constructors", constructors, 1);
        lookAtSource(new String(Files.readAllBytes(Paths.get(args[0]))));
        Check.end("FaceTest");
    }

    private static List<Class<?>> withInner() {
        List<Class<?>> all = new ArrayList<>();
        all.add(DotRuns.class);
        for (Class<?> c : DotRuns.class.getDeclaredClasses()) {
            all.add(c);
            int m = c.getModifiers();
            Check.due(c + " is static", Modifier.isStatic(m) ? 1 : 0, 1);
            Check.due(c + " is not open", Modifier.isPublic(m) || Modifier.isProtected(m) ? 1 : 0, 0);
        }
        Check.due("at most twelve classes", all.size() <= 12 ? 1 : 0, 1);
        return all;
    }

    private static void lookAtFields(Class<?> c) {
        int own = 0;
        for (Field f : c.getDeclaredFields()) {
            int m = f.getModifiers();
            own += Modifier.isStatic(m) ? 0 : 1;
            Check.due(f + " static is final", Modifier.isStatic(m) && !Modifier.isFinal(m) ? 1 : 0, 0);
            boolean open = c == DotRuns.class && !Modifier.isPrivate(m);
            Check.due(f + " is not open", open && !f.getName().equals("NONE") ? 1 : 0, 0);
        }
        Check.due(c + " has some twenty fields at most", own <= 20 ? 1 : 0, 1);
    }

    private static void lookAtSource(String source) {
        String code = source.replaceAll("(?s)/\\*.*?\\*/", "").replaceAll("//[^\n]*", "");
        for (String word : FORBIDDEN) {
            Check.due("the source has '" + word + "'", code.contains(word) ? 1 : 0, 0);
        }
    }
}
