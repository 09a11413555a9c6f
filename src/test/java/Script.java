import java.io.IOException;
import java.lang.reflect.Method;
import java.nio.file.Files;
import java.nio.file.Path;
import java.util.ArrayList;
import java.util.HashMap;
import java.util.List;
import java.util.Map;
import java.util.Set;
import java.util.TreeSet;

/**
 * Runs of calls told as texts, each made on a new object; the title of a run is the sentence of the document it tests.
 *
 * <p>A text has steps with blanks between them: {@code walk(0,1,9)=1} is a call with the answer that is due, a step
 * without one may answer anything but a refusal, {@code 24*years(1)} is a step 24 times, and
 * {@code tell:w1,1;s0;h0,1;=1} feeds these bytes and calls parish().
 *
 * <p>"What is refused, or found, changes nothing but status()": behind every step that is refused the run is made
 * twice anew, with that step and without it, and all that can be seen of the two objects is compared.
 */
final class Script {
    private static final Map<String, Integer> NAMES = Map.ofEntries(
        Map.entry("NONE", -1000000), Map.entry("BAD", -1000001), Map.entry("STATE", -1000002),
        Map.entry("FULL", -1000003), Map.entry("NULL", -1000011), Map.entry("PLACE", -1000012),
        Map.entry("KIND", -1000013), Map.entry("SIZE", -1000014), Map.entry("STORE", -1000015),
        Map.entry("MIN", Integer.MIN_VALUE), Map.entry("MAX", Integer.MAX_VALUE));
    private static final int FIRST_FAULT = -1000100, LAST_FAULT = -1000220;
    private static final int CALLS = 512;
    private static final Map<String, Method> METHODS = new HashMap<>();

    static {
        for (Method m : BeatBounds.class.getDeclaredMethods()) {
            METHODS.put(m.getName(), m);
        }
    }

    /** A call; answer is null where none is told; text only where a parish is told. */
    record Step(String told, String name, int[] args, String text, Integer answer) { }

    /** An object with the calls that were made of it, as only 512 are promised. */
    private static final class Subject {
        final BeatBounds object = new BeatBounds();
        int calls = 0;

        int call(String name, int... args) {
            calls++;
            Object[] given = new Object[args.length];
            for (int i = 0; i < args.length; i++) {
                given[i] = args[i];
            }
            try {
                return (int) METHODS.get(name).invoke(object, given);
            } catch (ReflectiveOperationException e) {
                throw new IllegalStateException(name, e);
            }
        }

        int make(Step step) {
            if (step.text == null) {
                return call(step.name, step.args);
            }
            for (int i = 0; i < step.text.length(); i++) {
                call("feed", step.text.charAt(i));
            }
            return call("parish");
        }
    }

    private final Due due;
    private final String document;
    private final Set<String> labels = new TreeSet<>();

    Script(Due due) {
        this.due = due;
        this.document = plain(read("../shared/DOC.md"));
    }

    /** One run; the label tells the promise (P1 to P36) or the part of the terms (T0 to T4) the sentence stands in. */
    void run(String label, String sentence, String... texts) {
        labels.add(label);
        String title = label + " \"" + sentence + "\"";
        due.holds(title + " stands in the document", document.isEmpty() || document.contains(plain(sentence)));
        List<Step> steps = parse(String.join(" ", texts));
        Subject subject = new Subject();
        for (int i = 0; i < steps.size(); i++) {
            Step step = steps.get(i);
            int got = subject.make(step);
            if (step.answer == null) {
                due.holds(title + ": " + step.told + " is not refused, but answered " + got, !isRefused(got));
            } else {
                due.is(title + ": " + step.told, got, step.answer);
            }
            if (isRefused(got)) {
                changesNothing(title, steps, i, got);
            }
        }
        due.holds(title + ": no more calls than are promised", subject.calls <= CALLS);
    }

    /**
     * Each number of a call by itself: the first and the last that are allowed are not refused, the next beyond them
     * and the farthest are. The call has a ? where the number comes.
     */
    void edges(String label, String sentence, String ahead, String call, int first, int last, String... refusals) {
        String below = refusals.length > 0 ? refusals[0] : "BAD";
        String above = refusals.length > 1 ? refusals[1] : below;
        run(label, sentence, ahead, call.replace("?", "" + first));
        run(label, sentence, ahead, call.replace("?", "" + last));
        run(label, sentence, ahead, call.replace("?", "" + (first - 1)) + "=" + below);
        run(label, sentence, ahead, call.replace("?", "MIN") + "=" + below);
        run(label, sentence, ahead, call.replace("?", "" + (last + 1)) + "=" + above);
        run(label, sentence, ahead, call.replace("?", "MAX") + "=" + above);
    }

    /** Whether each of the labels from first to last has a run. */
    void covers(char letter, int first, int last) {
        for (int i = first; i <= last; i++) {
            due.holds("there is a run for " + letter + i, labels.contains("" + letter + i));
        }
    }

    /** A call that is answered, and all that can be seen but status() is as it was ahead of it. */
    void unchanged(String label, String sentence, String ahead, String call) {
        run(label, sentence, ahead, call);
        List<Step> steps = parse(ahead + " " + call);
        String after = label + " \"" + sentence + "\": after " + call;
        compare(after, replay(steps, steps.size()), replay(steps, steps.size() - 1));
    }

    private void changesNothing(String title, List<Step> steps, int at, int got) {
        boolean faulty = isFault(got);
        Subject with = replay(steps, at + 1);
        Subject without = faulty ? replayUnfed(steps, at) : replay(steps, at);
        String after = title + ": after " + steps.get(at).told;
        boolean found = got <= -1000011 && got >= -1000015;
        due.is(after + ", status()", with.call("status"), found ? -1000010 - got : without.call("status"));
        if (!faulty) {
            due.is(after + ", fault()", with.call("fault"), without.call("fault"));
        }
        compare(after, with, without);
    }

    private static Subject replay(List<Step> steps, int end) {
        Subject s = new Subject();
        for (int i = 0; i < end; i++) {
            s.make(steps.get(i));
        }
        return s;
    }

    /** Without the bytes that are on the tape at the end. */
    private static Subject replayUnfed(List<Step> steps, int end) {
        Subject s = new Subject();
        for (int i = 0; i < end; i++) {
            if (!isOfTheTape(steps, i, end)) {
                s.make(steps.get(i));
            }
        }
        return s;
    }

    private void compare(String after, Subject with, Subject without) {
        List<String> one = look(with);
        List<String> other = look(without);
        due.is(after + ", as much is seen", one.size(), other.size());
        for (int i = 0; i < Math.min(one.size(), other.size()); i++) {
            due.holds(after + ": " + one.get(i) + ", but without it " + other.get(i), one.get(i).equals(other.get(i)));
        }
        due.holds(after + ": no more calls than are promised", with.calls <= CALLS && without.calls <= CALLS);
    }

    /** Whether this step fed a byte that a faulty parish() at the end has read: the tape is empty then all the same. */
    private static boolean isOfTheTape(List<Step> steps, int i, int at) {
        for (int j = i; j < at; j++) {
            if (steps.get(j).text != null || steps.get(j).name.equals("parish")) {
                return false;
            }
        }
        return steps.get(i).name.equals("feed");
    }

    /** All that can be seen of an object; it is used up by that. */
    private static List<String> look(Subject s) {
        List<String> seen = new ArrayList<>();
        lookAtParish(s, seen);
        for (int i = 0; i < 7; i++) {
            see(s, seen, "trace", i);
        }
        for (int i = 0; i < 25 && see(s, seen, "undo") >= 0; i++) {
            see(s, seen, "count", 3);
            see(s, seen, "stone", 0);
            see(s, seen, "witness", 1, 3);
        }
        lookAtParish(s, seen);
        for (int k = 0; k < 2; k++) {
            if (see(s, seen, "restore", k) == 1) {
                lookBriefly(s, seen);
            }
        }
        see(s, seen, "parish");
        lookBriefly(s, seen);
        lookAtRows(s, seen);
        return seen;
    }

    private static void lookAtParish(Subject s, List<String> seen) {
        for (int what = 0; what <= 6; what++) {
            see(s, seen, "count", what);
        }
        int stones = s.call("count", 1);
        int witnesses = s.call("count", 2);
        for (int i = 0; i < stones; i++) {
            see(s, seen, "stone", i);
        }
        for (int w = 0; w < witnesses; w++) {
            see(s, seen, "kind", w);
            see(s, seen, "witness", w, 0);
            see(s, seen, "witness", w, 1);
            see(s, seen, "witness", w, 3);
            for (int i = 0; i < stones; i++) {
                if (see(s, seen, "memory", w, i, 0) >= 0) {
                    see(s, seen, "memory", w, i, 1);
                    see(s, seen, "memory", w, i, 2);
                    see(s, seen, "memory", w, i, 3);
                }
            }
        }
    }

    private static void lookBriefly(Subject s, List<String> seen) {
        for (int what = 1; what <= 5; what++) {
            see(s, seen, "count", what);
        }
        see(s, seen, "stone", 0);
        see(s, seen, "witness", 1, 3);
        see(s, seen, "memory", 0, 0, 0);
        see(s, seen, "memory", 1, 0, 1);
    }

    /** Where a stone stood by one honest witness tells an item; only the first ones are looked at, and the size. */
    private static void lookAtRows(Subject s, List<String> seen) {
        s.make(parseStep("tell:w1,1;s0;h0,1;"));
        for (int row = 0; row < 8; row++) {
            for (int i = 0; i < 6 && see(s, seen, "stood", row, i, 0) >= 0; i++) {
                see(s, seen, "stood", row, i, 1);
            }
            see(s, seen, "copy", row, 0, (row + 1) % 8, 0, 0);
        }
        for (int row = 0; row < 8; row++) {
            see(s, seen, "set", row, 0, 40000);
            see(s, seen, "drop", row);
        }
    }

    private static int see(Subject s, List<String> seen, String name, int... args) {
        int got = s.call(name, args);
        StringBuilder told = new StringBuilder(name).append('(');
        for (int i = 0; i < args.length; i++) {
            told.append(i == 0 ? "" : ",").append(args[i]);
        }
        seen.add(told.append(")=").append(got).toString());
        return got;
    }

    private static boolean isFault(int got) {
        return got <= FIRST_FAULT && got >= LAST_FAULT;
    }

    private static boolean isRefused(int got) {
        return got <= -1000001 && got >= -1000015 || isFault(got);
    }

    private static List<Step> parse(String text) {
        List<Step> steps = new ArrayList<>();
        for (String told : text.trim().split("\\s+")) {
            int times = told.matches("\\d+\\*.*") ? told.indexOf('*') : 0;
            Step step = parseStep(times == 0 ? told : told.substring(times + 1));
            for (int i = times == 0 ? 1 : Integer.parseInt(told.substring(0, times)); i > 0; i--) {
                steps.add(step);
            }
        }
        return steps;
    }

    private static Step parseStep(String told) {
        int equals = told.indexOf('=');
        Integer answer = equals < 0 ? null : number(told.substring(equals + 1));
        String call = equals < 0 ? told : told.substring(0, equals);
        if (call.startsWith("tell:")) {
            return new Step(told, "tell", null, call.substring(5), answer);
        }
        int open = call.indexOf('(');
        String inside = call.substring(open + 1, call.length() - 1);
        String[] parts = inside.isEmpty() ? new String[0] : inside.split(",");
        int[] args = new int[parts.length];
        for (int i = 0; i < parts.length; i++) {
            args[i] = number(parts[i]);
        }
        return new Step(told, call.substring(0, open), args, null, answer);
    }

    /** A number, a name of one, or FAULT with the place of a fault. */
    private static int number(String told) {
        if (told.startsWith("FAULT")) {
            return FIRST_FAULT - Integer.parseInt(told.substring(5));
        }
        return NAMES.containsKey(told) ? NAMES.get(told) : Integer.parseInt(told);
    }

    private static String plain(String text) {
        return text.replaceAll("\\s+", " ");
    }

    /** Empty where the file cannot be read: the runs themselves do not need it. */
    private static String read(String path) {
        try {
            return Files.readString(Path.of(path));
        } catch (IOException e) {
            System.out.println(path + " cannot be read, so the titles of runs are not looked up in it");
            return "";
        }
    }
}
