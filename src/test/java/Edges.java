import java.util.ArrayList;
import java.util.Arrays;
import java.util.List;
import java.util.NoSuchElementException;
import java.util.Set;
import java.util.TreeSet;

/**
 * Boundary cases, each one on a new object and with a name of its own.
 *
 * <p>A case is a row of steps. "tell TEXT" feeds a text and reads it, "type TEXT" feeds it alone. Any other step holds
 * calls with ", " between them: a method's name, its arguments (MIN and MAX are the ends of int), and
 * "= ANSWER" or "throws" if the call is looked at (end answers 1 or 0). In front of a call may stand
 * "3* " (three times over), "! " (and nothing that can be asked is another thing then),
 * "~ " (the same, the tape and fault() aside).
 */
final class Edges {
    private static final int MOST_CALLS = 512;

    private final String test;
    private final int first;
    private final int last;
    private final int[] many = new int[23];
    private final Set<String> names = new TreeSet<>();
    private int wrong = 0;

    Edges(String test, int first, int last) {
        this.test = test;
        this.first = first;
        this.last = last;
    }

    void edge(int promise, String name, String... steps) {
        many[promise]++;
        if (!names.add(promise + ": " + name)) report(promise, name, "there are two cases of this name");
        Run run = new Run();
        for (String step : steps) run.step(step);
        if (run.looked == 0) run.faults.add("the case looks at no answer");
        if (run.calls > MOST_CALLS) run.faults.add("the case makes " + run.calls + " calls");
        for (String fault : run.faults) report(promise, name, fault);
    }

    private void report(int promise, String name, String fault) {
        wrong++;
        System.out.println(test + ", promise " + promise + ", " + name + ": " + fault);
    }

    void finish() {
        for (int p = first; p <= last; p++) if (many[p] == 0) report(p, "no case", "a promise without one");
        int all = Arrays.stream(many).sum();
        System.out.println(test + ": " + all + " cases" + (wrong == 0 ? ", all as due" : ", " + wrong + " answers are not as due"));
        if (wrong != 0) System.exit(1);
    }

    private static final class Run {
        private final BlockCross x = new BlockCross();
        private final List<String> faults = new ArrayList<>();
        private int calls = 0;
        private int looked = 0;

        private void step(String step) {
            if (step.startsWith("tell ")) {
                type(step.substring(5));
                if (asked("text") < 0) faults.add("the text has a FAULT: " + step);
            } else if (step.startsWith("type ")) {
                type(step.substring(5));
            } else {
                for (String call : step.split(", ")) repeat(call.trim());
            }
        }

        private void type(String text) {
            calls += 1 + (text.length() + 19) / 20;
            Due.feed(x, text);
        }

        private void repeat(String call) {
            int star = call.indexOf("* ");
            int times = star < 0 ? 1 : Integer.parseInt(call.substring(0, star));
            for (int i = 0; i < times; i++) still(call.substring(star < 0 ? 0 : star + 2));
        }

        private void still(String call) {
            boolean all = call.startsWith("! ");
            if (!all && !call.startsWith("~ ")) {
                look(call);
                return;
            }
            int[] before = seen(all);
            look(call.substring(2));
            if (!Arrays.equals(before, seen(all))) faults.add(call + " changed something");
        }

        private void look(String call) {
            int equal = call.indexOf(" = ");
            boolean mustThrow = call.endsWith(" throws");
            String bare = equal >= 0 ? call.substring(0, equal) : mustThrow ? call.substring(0, call.length() - 7) : call;
            String got;
            try {
                got = Integer.toString(asked(bare.split(" ")));
            } catch (NoSuchElementException e) {
                got = "a throw";
            }
            String want = equal >= 0 ? call.substring(equal + 3) : mustThrow ? "a throw" : got;
            if (equal >= 0 || mustThrow) looked++;
            if (!got.equals(want)) faults.add(bare + " answered " + got + ", due is " + want);
        }

        /** All that can be asked of what stands. */
        private int[] seen(boolean tapeToo) {
            List<Integer> all = new ArrayList<>();
            for (int what = 0; what <= 8; what++) all.add(asked("now", "" + what));
            if (tapeToo) {
                all.add(asked("now", "9"));
                all.add(asked("fault"));
            }
            int orders = all.get(0);
            for (int order = 0; order < orders; order++) {
                for (int what = 0; what <= 8; what++) all.add(asked("order", "" + order, "" + what));
            }
            for (int what = 0; what <= 1; what++) all.add(asked("chosen", "" + all.get(2), "" + what));
            return all.stream().mapToInt(i -> i).toArray();
        }

        private static int number(String[] words, int i) {
            return switch (words[i]) {
                case "MIN" -> Integer.MIN_VALUE;
                case "MAX" -> Integer.MAX_VALUE;
                default -> Integer.decode(words[i]);
            };
        }

        private int asked(String... words) {
            calls++;
            int[] v = new int[6];
            for (int i = 1; i < words.length; i++) v[i] = number(words, i);
            return switch (words[0] + "/" + (words.length - 1)) {
                case "feed/5" -> x.feed(v[1], v[2], v[3], v[4], v[5]);
                case "end/1" -> x.end(v[1]) ? 1 : 0;
                case "text/0" -> x.text();
                case "fault/0" -> x.fault();
                case "now/1" -> x.now(v[1]);
                case "order/2" -> x.order(v[1], v[2]);
                case "rank/1" -> x.rank(v[1]);
                case "chosen/2" -> x.chosen(v[1], v[2]);
                case "fill/1" -> x.fill(v[1]);
                case "why/1" -> x.why(v[1]);
                case "volume/1" -> x.volume(v[1]);
                case "best/0" -> x.best();
                case "were/2" -> x.were(v[1], v[2]);
                case "worth/1" -> x.worth(v[1]);
                case "reach/1" -> x.reach(v[1]);
                case "come/5" -> x.come(v[1], v[2], v[3], v[4], v[5]);
                case "withdraw/1" -> x.withdraw(v[1]);
                case "amend/3" -> x.amend(v[1], v[2], v[3]);
                case "mid/1" -> x.mid(v[1]);
                case "run/0" -> x.run();
                case "undo/0" -> x.undo();
                default -> throw new IllegalArgumentException("no such call: " + Arrays.toString(words));
            };
        }
    }
}
