import java.lang.reflect.InvocationTargetException;
import java.lang.reflect.Method;
import java.util.Collections;
import java.util.HashMap;
import java.util.List;
import java.util.Map;

/**
 * What the tests of boundary cases share. Each sentence of the document that names a boundary case has a test of its
 * own: a run of rows on a new object. A row is one of
 *
 * <pre>
 *   name(arguments) answer    a call and what is due; constants, LOWEST and HIGHEST stand for their numbers
 *   name(*) answers           a call for each of 0, 1, 2 .. and what is due of each
 *   rows 012 120              a patch of these rows of colours (9: hidden)
 *   cells 012 120             what all cells have, and no cell behind them
 * </pre>
 */
abstract class Sentences {
    private static final int MOST_CALLS = 512;
    private static final Map<String, Long> NAMES = Map.of(
        "UNKNOWN", -1L, "BAD", -2L, "LATE", -3L, "FULL", -4L, "NONE", -9L,
        "LOWEST", (long) Integer.MIN_VALUE, "HIGHEST", (long) Integer.MAX_VALUE, "false", 0L, "true", 1L);
    private static final Map<String, Method> CALLS = new HashMap<>();

    private static final boolean[] hasSentence = new boolean[41];
    private static int held = 0;
    private static int wrong = 0;

    private static PaperRepeats paper;
    private static String about;
    private static int calls;

    /** A sentence of a promise holds (0: of the terms), if the rows on a new object answer as due. */
    static void holds(int promise, String sentence, String... rows) {
        begin(promise, sentence);
        paper = new PaperRepeats();
        calls = 0;
        for (String row : rows) {
            take(row);
        }
        demand(rows.length > 0, "has no rows");
        demand(calls <= MOST_CALLS, "takes more calls than an object is used for");
    }

    static void holds(int promise, String sentence, List<String> rows) {
        holds(promise, sentence, rows.toArray(new String[0]));
    }

    /** What is demanded from here on is said of this sentence. */
    static void begin(int promise, String sentence) {
        hasSentence[promise] = true;
        held++;
        about = "promise " + promise + ", \"" + sentence + "\": ";
    }

    /** Each promise from one to another must have had a sentence. */
    static void end(int firstPromise, int lastPromise) {
        for (int promise = firstPromise; promise <= lastPromise; promise++) {
            about = "promise " + promise + " ";
            demand(hasSentence[promise], "has no sentence");
        }
        System.out.println(wrong == 0 ? held + " sentences hold" : wrong + " answers are not as due");
        if (wrong != 0) {
            System.exit(1);
        }
    }

    static void demand(boolean holds, String what) {
        if (!holds) {
            wrong++;
            System.out.println(about + what);
        }
    }

    private static void take(String row) {
        String[] parts = row.split(" ", 2);
        if (parts[0].equals("rows")) {
            print(parts[1].split(" "));
        } else if (parts[0].equals("cells")) {
            look(parts[1].replace(" ", ""));
        } else {
            int close = row.indexOf(')');
            callEach(row.substring(0, close + 1), row.substring(close + 1).trim().split(" "));
        }
    }

    private static void print(String[] rows) {
        due("patch(" + rows[0].length() + ", " + rows.length + ")", (long) rows[0].length() * rows.length);
        String all = String.join("", rows);
        for (int cell = 0; cell < all.length(); cell++) {
            if (all.charAt(cell) != '0') {
                due("dye(" + cell + ", " + all.charAt(cell) + ")", 0);
            }
        }
    }

    private static void look(String all) {
        for (int cell = 0; cell < all.length(); cell++) {
            due("at(" + cell + ")", all.charAt(cell) - '0');
        }
        due("at(" + all.length() + ")", NAMES.get("UNKNOWN"));
    }

    private static void callEach(String call, String[] answers) {
        boolean manyMeant = call.contains("*");
        demand(manyMeant || answers.length == 1, call + " has " + answers.length + " answers");
        for (int i = 0; i < answers.length; i++) {
            due(manyMeant ? call.replace("*", Integer.toString(i)) : call, number(answers[i]));
        }
    }

    private static void due(String call, long answer) {
        long got = ask(paper, call);
        calls++;
        demand(got == answer, call + ", call " + calls + ", answered " + got + ", due is " + answer);
    }

    /** Does a call told as text. */
    static long ask(PaperRepeats x, String call) {
        int open = call.indexOf('(');
        String inside = call.substring(open + 1, call.length() - 1);
        String[] texts = inside.isEmpty() ? new String[0] : inside.split(", ");
        Method method = methodOf(call.substring(0, open));
        Object[] arguments = new Object[texts.length];
        for (int i = 0; i < texts.length; i++) {
            long value = number(texts[i]);
            boolean isFlag = method.getParameterTypes()[i] == boolean.class;
            arguments[i] = isFlag ? (Object) (value == 1) : (Object) (int) value;
        }
        try {
            return ((Number) method.invoke(x, arguments)).longValue();
        } catch (InvocationTargetException | IllegalAccessException e) {
            throw new IllegalStateException(about + call + " threw", e);
        }
    }

    private static Method methodOf(String name) {
        if (CALLS.isEmpty()) {
            for (Method method : PaperRepeats.class.getMethods()) {
                if (method.getDeclaringClass() == PaperRepeats.class) {
                    CALLS.put(method.getName(), method);
                }
            }
        }
        return CALLS.get(name);
    }

    private static long number(String text) {
        return NAMES.containsKey(text) ? NAMES.get(text) : Long.parseLong(text);
    }

    static String call(String name, int... arguments) {
        StringBuilder text = new StringBuilder(name).append('(');
        for (int i = 0; i < arguments.length; i++) {
            text.append(i == 0 ? "" : ", ").append(arguments[i]);
        }
        return text.append(')').toString();
    }

    /** A text as often as told, with spaces between. */
    static String times(int often, String text) {
        return String.join(" ", Collections.nCopies(often, text));
    }
}
