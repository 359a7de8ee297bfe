import java.lang.reflect.InvocationTargetException;
import java.lang.reflect.Method;
import java.util.HashMap;
import java.util.Map;
import java.util.TreeSet;
import java.util.regex.Matcher;
import java.util.regex.Pattern;

/**
 * One sentence of the document that names an edge, held on two objects that are made alike. What changes something
 * is called on both; what must change nothing (a refusal, a question) is called on one of them alone, and when the
 * edge is closed nothing may tell the two apart: not what stands, nor what is undone, kept or laid from there on.
 *
 * Calls are told as in "put(1)=5 put(6)=BAD", LOW and HIGH being the lowest and the highest int.
 */
final class Edge {
    static final int BAD = -1, NO = -2, FULL = -3, NONE = -4;

    /** What later calls answer is free. */
    private static final int MOST_CALLS = 512;

    private static final Pattern CALL = Pattern.compile("(\\w+)\\(([^)]*)\\)=(\\S+)");
    private static final Map<String, Integer> NAMED = Map.of("BAD", BAD, "NO", NO, "FULL", FULL, "NONE", NONE,
            "LOW", Integer.MIN_VALUE, "HIGH", Integer.MAX_VALUE);
    private static final Map<String, Method> FACE = new HashMap<>();

    private static final TreeSet<Integer> promises = new TreeSet<>();
    private static int edges = 0;
    private static int wrong = 0;
    private static Edge open = null;

    static {
        for (Method method : BackColumns.class.getMethods()) {
            if (method.getDeclaringClass() == BackColumns.class) {
                FACE.put(method.getName() + method.getParameterCount(), method);
            }
        }
    }

    private final String name;
    private final Side asked = new Side();
    private final Side twin = new Side();

    private Edge(int promise, String sentence) {
        name = "promise " + promise + ", " + sentence;
    }

    /** An object and how often it was called. */
    private static final class Side {
        final BackColumns object = new BackColumns();
        int calls = 0;

        int answer(String method, int... numbers) {
            calls++;
            Object[] boxed = new Object[numbers.length];
            for (int n = 0; n < numbers.length; n++) {
                boxed[n] = numbers[n];
            }
            try {
                return (Integer) FACE.get(method + numbers.length).invoke(object, boxed);
            } catch (InvocationTargetException thrown) {
                throw new IllegalStateException(method + " threw", thrown.getCause());
            } catch (IllegalAccessException hidden) {
                throw new IllegalStateException(method + " is hidden", hidden);
            }
        }
    }

    static Edge of(int promise, String sentence) {
        closeOpen();
        promises.add(promise);
        edges++;
        open = new Edge(promise, sentence);
        return open;
    }

    /** Ends the test; each of these promises must have had an edge. */
    static void end(int firstPromise, int lastPromise) {
        closeOpen();
        for (int promise = firstPromise; promise <= lastPromise; promise++) {
            if (!promises.contains(promise)) {
                fault("promise " + promise + " has no edge");
            }
        }
        System.out.println(edges + " edges, " + wrong + " not as due");
        if (wrong != 0) {
            System.exit(1);
        }
    }

    private static void closeOpen() {
        if (open != null) {
            open.close();
            open = null;
        }
    }

    /** What is no run of calls. */
    static void holds(int promise, String sentence, boolean so) {
        closeOpen();
        promises.add(promise);
        edges++;
        if (!so) {
            fault("promise " + promise + ": not so: " + sentence);
        }
    }

    private static void fault(String what) {
        wrong++;
        System.out.println(what);
    }

    /** Letters behind THE TEXT of both. */
    Edge written(String text) {
        for (int at = 0; at < text.length(); at++) {
            asked.answer("write", text.charAt(at));
            twin.answer("write", text.charAt(at));
        }
        return this;
    }

    /** A TEXT laid on both, and wiped: so what follows has the room of 512 calls nearly to itself. */
    Edge laid(String text) {
        written(text);
        if (asked.answer("lay") < 1 || twin.answer("lay") < 1) {
            fault(name + ": not laid: " + text);
        }
        asked.answer("wipe");
        twin.answer("wipe");
        return this;
    }

    /** Calls on both. */
    Edge calls(String script) {
        for (String call : script.trim().split("\\s+")) {
            hold(asked, call);
            hold(twin, call);
        }
        return this;
    }

    /** Calls that must change nothing: on one alone. */
    Edge asks(String script) {
        for (String call : script.trim().split("\\s+")) {
            hold(asked, call);
        }
        return this;
    }

    /** The # is a number from least to most: those beside it, those far off and those alike in the low bits are BAD. */
    Edge bounds(String call, int least, int most) {
        int[] others = {least - 1, most + 1, least - 2, most + 2, Integer.MIN_VALUE, Integer.MIN_VALUE + least,
            Integer.MAX_VALUE, least + 256, most + 256, least + 65536, most + 65536, least - 65536};
        for (int other : others) {
            if (other < least || other > most) {
                hold(asked, call.replace("#", Integer.toString(other)) + "=BAD");
            }
        }
        allow(call, least);
        allow(call, most);
        return this;
    }

    private void allow(String call, int number) {
        Matcher told = parsed(call.replace("#", Integer.toString(number)) + "=0");
        int got = ask(asked, told);
        int beside = ask(twin, told);
        if (got == BAD || got != beside) {
            fault(name + ": " + call + " for # = " + number + " answered " + got + " and " + beside);
        }
    }

    private void hold(Side side, String call) {
        Matcher told = parsed(call);
        int got = ask(side, told);
        if (got != number(told.group(3))) {
            fault(name + ": call " + side.calls + ", " + call + " was due, the answer is " + got);
        }
    }

    private Matcher parsed(String call) {
        Matcher told = CALL.matcher(call);
        if (!told.matches()) {
            throw new IllegalArgumentException(name + ": no call: " + call);
        }
        return told;
    }

    private static int ask(Side side, Matcher told) {
        if (told.group(2).isEmpty()) {
            return side.answer(told.group(1));
        }
        String[] figures = told.group(2).split(",");
        int[] numbers = new int[figures.length];
        for (int n = 0; n < figures.length; n++) {
            numbers[n] = number(figures[n]);
        }
        return side.answer(told.group(1), numbers);
    }

    private static int number(String figures) {
        return NAMED.containsKey(figures) ? NAMED.get(figures) : Integer.parseInt(figures);
    }

    private void close() {
        String got = trace(asked);
        String due = trace(twin);
        if (!got.equals(due)) {
            fault(name + ": something changed:\n  " + got + "\n  is due to be\n  " + due);
        }
        if (asked.calls > MOST_CALLS || twin.calls > MOST_CALLS) {
            fault(name + ": the test makes " + Math.max(asked.calls, twin.calls) + " calls");
        }
    }

    /** What stands, and what comes by undoing, going back and laying from there: the object is used up by it. */
    private static String trace(Side side) {
        StringBuilder s = new StringBuilder(whole(side));
        for (int left = side.answer("undo"); left >= 0; left = side.answer("undo")) {
            s.append(" undo ").append(left).append(':').append(changeable(side));
        }
        for (int left = side.answer("back"); left >= 0; left = side.answer("back")) {
            s.append(" back ").append(left).append(':').append(changeable(side));
        }
        s.append(" fault ").append(side.answer("fault"));
        int words = side.answer("lay");
        return s.append(words < 1 ? " not laid" : " lay " + whole(side)).toString();
    }

    private static String whole(Side side) {
        StringBuilder s = new StringBuilder();
        for (int what = 0; what <= 6; what++) {
            s.append(side.answer("count", what)).append(' ');
        }
        int words = side.answer("count", 0);
        for (int w = 0; w < words; w++) {
            s.append('w').append(side.answer("word", w, 0)).append(side.answer("word", w, 1));
            s.append('/').append(side.answer("taken", w));
        }
        int readers = side.answer("count", 1);
        for (int i = 0; i < readers; i++) {
            s.append('r').append(side.answer("reader", i, 0)).append(side.answer("reader", i, 1));
        }
        return s.append(" speaks ").append(side.answer("speaks")).append(changeable(side)).toString();
    }

    private static String changeable(Side side) {
        StringBuilder s = new StringBuilder();
        int words = side.answer("count", 0);
        for (int w = 0; w < words; w++) {
            s.append(' ').append(side.answer("word", w, 2));
        }
        int notices = side.answer("count", 2);
        for (int k = 0; k < notices; k++) {
            s.append(" n").append(side.answer("notice", k, 0));
        }
        return s.toString();
    }
}
