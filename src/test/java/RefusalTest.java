import java.util.ArrayList;
import java.util.Arrays;
import java.util.List;
import java.util.TreeSet;

/**
 * Each call with all arguments just inside and just outside of each limit, from each start: the exception that the
 * document lists first is thrown, and no other; what throws or only asks changes nothing; each edit is undone.
 */
final class RefusalTest {

    /** So many calls leave room for the start and for the story. */
    private static final int BATCH = 80;

    public static void main(String[] args) {
        for (Start start : Start.all()) {
            String story = Start.story(start.made());
            for (String name : Rules.ASKS) {
                oneByOne(start, story, name, true);
            }
            for (String name : Rules.EDITS) {
                oneByOne(start, story, name, false);
                undone(start, story, name);
            }
            for (String name : Rules.OTHERS) {
                oneByOne(start, story, name, false);
            }
        }
        Check.end("RefusalTest");
    }

    /** Numbers on both sides of each limit that the start or the document knows. */
    private static int[] edges(Start start, int parameters) {
        TreeSet<Integer> found = new TreeSet<>(Arrays.asList(Integer.MIN_VALUE, -1, 0, 1, 2, Integer.MAX_VALUE));
        for (int limit : new int[] {start.lines, start.width}) {
            found.addAll(Arrays.asList(limit - 1, limit, limit + 1));
        }
        if (parameters <= 3) {
            found.addAll(Arrays.asList(-41, -40, -2, 3, 4, 5, 6, 11, 12, 19, 20, 21, 40, 41));
        }
        if (parameters <= 2) {
            found.addAll(Arrays.asList(8, 9, 10, 13, 98, 99, 100, 896, 897, 899, 900, 901, 1 << 20, 1 << 31));
            found.addAll(Arrays.asList(start.text - 1, start.text, start.text + 1));
        }
        int[] all = new int[found.size()];
        int i = 0;
        for (int value : found) {
            all[i++] = value;
        }
        return all;
    }

    private static List<int[]> arguments(Start start, String name) {
        List<int[]> found = new ArrayList<>();
        found.add(new int[0]);
        for (int i = Rules.parameters(name); i > 0; i--) {
            List<int[]> longer = new ArrayList<>();
            for (int[] some : found) {
                for (int value : edges(start, Rules.parameters(name))) {
                    int[] more = Arrays.copyOf(some, some.length + 1);
                    more[some.length] = value;
                    longer.add(more);
                }
            }
            found = longer;
        }
        return found;
    }

    private static String told(Start start, String name, int[] a) {
        return start.name + ": " + name + Arrays.toString(a);
    }

    /** Those that are refused (and those that only ask) go together on one object, which stays as it is. */
    private static void oneByOne(Start start, String story, String name, boolean onlyAsks) {
        Face x = start.made();
        int made = 0;
        for (int[] a : arguments(start, name)) {
            String due = Rules.due(start, name, a);
            if (due.isEmpty() && !onlyAsks) {
                answers(start.made(), start, name, a);
                continue;
            }
            if (due.isEmpty()) {
                answers(x, start, name, a);
            } else {
                Check.due(told(start, name, a), x.call(name, a), due);
            }
            made++;
            if (made == BATCH) {
                Check.due(told(start, name, a) + " and those ahead of it change nothing", Start.story(x), story);
                x = start.made();
                made = 0;
            }
        }
        Check.due(start.name + ": " + name + " changes nothing", Start.story(x), story);
    }

    private static void answers(Face x, Start start, String name, int[] a) {
        String got = x.call(name, a);
        Check.due(told(start, name, a) + " (" + got + ") throws nothing", got.startsWith("throws.") ? 1 : 0, 0);
    }

    /** Each start holds fewer than ten edits, so that none falls out. */
    private static void undone(Start start, String story, String name) {
        for (int[] a : arguments(start, name)) {
            if (Rules.due(start, name, a).isEmpty()) {
                Face x = start.made();
                int held = x.number("count", 11);
                x.call(name, a);
                Check.due(told(start, name, a) + " is an edit", x.number("count", 11), held + 1);
                Check.due(told(start, name, a) + " is undone", x.number("undo"), held);
                Check.due(told(start, name, a) + " is undone whole", Start.story(x), story);
            }
        }
    }
}
