import java.util.ArrayList;
import java.util.List;

/** The refusals: their numbers, which of several is told; nothing is changed by them, nor by calls that only ask. */
public final class RefusalEdgesTest extends Sentences {
    /** Papers to be refused on, full of all that may be changed. */
    private static final String[][] STATES = {
        {"patch(3, 3)", "colours(4)", "dyes(0, 9, 12390120)", "tell(9)", "tell(36)", "tell(1)", "tell(0)"},
        {"patch(4, 3)", "colours(3)", "dyes(0, 9, 129012900)", "dyes(9, 3, 102)", "tell(26)", "tell(1)", "tell(0)",
            "tell(0)"},
        {"patch(1, 1)", "colours(1)", "dye(0, 9)", "tell(0)", "tell(0)", "tell(0)", "tell(0)"},
        {"patch(6, 6)", "colours(2)", "dyes(9, 9, 109010901)", "dye(35, 9)", "tell(18)", "tell(3)", "tell(0)",
            "tell(0)"},
    };
    /** Calls that each of those papers refuses. */
    private static final String[] REFUSED = {
        "patch(0, 1)", "patch(1, 0)", "patch(7, 1)", "patch(1, 7)", "patch(-1, -1)", "patch(LOWEST, HIGHEST)",
        "colours(0)", "colours(5)", "colours(-1)", "colours(HIGHEST)", "dye(-1, 0)", "dye(36, 0)", "dye(HIGHEST, 9)",
        "dye(0, 4)", "dye(0, -1)", "dye(0, 8)", "dye(0, 10)", "dyes(-1, 1, 0)", "dyes(36, 1, 0)", "dyes(0, 37, 0)",
        "dyes(0, HIGHEST, 0)", "dyes(0, 0, 0)", "dyes(0, -1, 0)", "dyes(0, LOWEST, 0)", "dyes(0, 1, -1)",
        "dyes(0, 1, 10)", "dyes(0, 1, 4)", "dyes(0, 1, LOWEST)", "dyes(0, 1, HIGHEST)", "at(-1)", "at(36)",
        "lead(-1, 0)", "lead(288, 0)", "lead(0, -1)", "lead(0, 36)", "behind(-1, 0)", "behind(0, 288)", "back(-1)",
        "back(288)", "order(-1)", "order(288)", "keeps(-1)", "keeps(288)", "kept(-1)", "kept(9)", "go(-1)", "go(288)",
        "go(LOWEST)", "go(HIGHEST)", "mirrored(3)", "mirrored(8)", "mirror(-1)", "mirror(288)", "mirror(0)",
        "paint(-1, 0)", "paint(24, 0)", "paint(0, -1)", "paint(0, 4)", "keepsBy(-1, 0)", "keepsBy(288, 0)",
        "keepsBy(0, -1)", "keepsBy(0, 24)", "by(-1)", "by(288)", "tell(-1)", "tell(288)", "tell(0)", "tell(LOWEST)",
        "ring(-1)", "ring(36)", "sure(-1)", "sure(36)", "first(-1)", "first(36)", "piece(-1)", "piece(36)",
        "count(-1)", "count(5)", "keeper(-1)", "keeper(288)",
    };
    /** Calls that answer and are to change nothing. */
    private static final String[] ASKING = {
        "at(0)", "moves()", "lead(0, 0)", "behind(0, 0)", "back(0)", "order(0)", "keeps(0)", "kept(8)", "keeper(0)",
        "go(0)", "least()", "mirrored(4)", "kind()", "paints()", "paint(0, 0)", "keepsBy(0, 0)", "by(0)", "swaps()",
        "together()", "rings()", "ring(0)", "mend(false)", "sure(0)", "torn()", "papers()", "upTo()", "like()",
        "first(0)", "toFirst()", "pieces(false)", "pieces(true)", "piece(0)", "count(0)", "count(1)", "count(2)",
        "count(3)", "count(4)",
    };

    public static void main(String[] args) {
        numbers();
        whatIsToldFirst();
        nothingChanges(REFUSED, true);
        nothingChanges(ASKING, false);
        refusedByState();
        lastOfAllCalls();
        noCallThrows();
        end(0, 0);
    }

    private static void numbers() {
        holds(0, "UNKNOWN -1 (there is no such CELL, MOVE, PAINT), BAD -2, LATE -3, FULL -4", "at(16) -1",
            "back(128) -1", "paint(2, 0) -1", "patch(0, 0) -2", "dye(0, 9) 0", "piece(0) -3", "sure(1) -3",
            "tell(0) 1", "tell(0) 2", "tell(0) 3", "tell(0) 4", "tell(0) -4", "patch(6, 5) 30", "papers() -3",
            "upTo() -3");
        holds(0, "NONE is -9", "keeper(128) -9", "dye(0, 9) 0", "sure(0) -9", "by(1) -9");
        demand(PaperRepeats.UNKNOWN == -1, "UNKNOWN");
        demand(PaperRepeats.BAD == -2, "BAD");
        demand(PaperRepeats.LATE == -3, "LATE");
        demand(PaperRepeats.FULL == -4, "FULL");
        demand(PaperRepeats.NONE == -9, "NONE");
    }

    private static void whatIsToldFirst() {
        holds(0, "Of several what is told first", "dye(16, 2) UNKNOWN", "dyes(16, 0, -1) UNKNOWN",
            "dyes(15, 2, -1) UNKNOWN", "dyes(10, 10, 0) UNKNOWN", "paint(2, 2) UNKNOWN", "tell(0) 1", "tell(0) 2",
            "tell(0) 3", "tell(0) 4", "tell(128) UNKNOWN", "patch(3, 2) 6", "mirror(6) UNKNOWN", "mirror(18) UNKNOWN",
            "mirror(12) BAD", "sure(6) UNKNOWN", "dye(0, 9) 0", "piece(6) UNKNOWN", "piece(0) LATE");
    }

    /** A paper that was called once must be as its twin that was not. */
    private static void nothingChanges(String[] calls, boolean areRefused) {
        begin(0, areRefused
            ? "What is refused changes nothing"
            : "Nothing is promised beyond the answers and state changes");
        for (String[] state : STATES) {
            String before = all(made(state));
            for (String call : calls) {
                PaperRepeats x = made(state);
                long answer = ask(x, call);
                demand(!areRefused || answer < 0, call + " is not refused");
                demand(all(x).equals(before), call + " changed something");
            }
        }
    }

    private static void refusedByState() {
        holds(0, "What is refused changes nothing", "rows 0190", "tell(1) 1", "sure(0) LATE", "piece(2) LATE",
            "cells 0190", "count(3) 1", "patch(6, 5) 30", "dye(29, 1) 0", "tell(1) 1", "papers() LATE", "upTo() LATE",
            "at(29) 1", "rings() 5", "count(3) 1");
    }

    private static void lastOfAllCalls() {
        List<String> rows = new ArrayList<>(List.of("patch(6, 6) 36", "dye(35, 1) 0"));
        String[] heavy = {"kind() 10", "swaps() 8", "toFirst() 0", "like() 36", "together() 1", "keeper(7) 280"};
        for (int call = 3; call < 512; call++) {
            rows.add(heavy[call % heavy.length]);
        }
        rows.add("dye(35, 0) 1");
        holds(0, "An object is used for at most 512 calls after it has been made", rows);
    }

    /** Every call with odd numbers in every place; the asking itself fails if one throws. */
    private static void noCallThrows() {
        begin(0, "Nothing is promised beyond the answers and state changes");
        String[] odd = {"LOWEST", "-10", "-1", "0", "1", "5", "9", "36", "288", "999999999", "HIGHEST"};
        String[] byOne = {
            "colours", "at", "back", "order", "keeps", "kept", "keeper", "go", "mirrored", "mirror", "by", "tell",
            "ring", "sure", "first", "piece", "count",
        };
        String[] byTwo = {"patch", "dye", "lead", "behind", "paint", "keepsBy"};
        for (String[] state : STATES) {
            for (String first : odd) {
                askAll(made(state), byOne, first);
                for (String second : odd) {
                    askAll(made(state), byTwo, first + ", " + second);
                    for (String third : odd) {
                        askAll(made(state), new String[] {"dyes"}, first + ", " + second + ", " + third);
                    }
                }
            }
        }
    }

    private static void askAll(PaperRepeats x, String[] names, String arguments) {
        for (String name : names) {
            ask(x, name + "(" + arguments + ")");
        }
    }

    private static PaperRepeats made(String[] state) {
        PaperRepeats x = new PaperRepeats();
        for (String call : state) {
            demand(ask(x, call) >= 0, call + " is refused");
        }
        return x;
    }

    /** All that can be asked of a paper, as one text; some 300 calls at most. */
    private static String all(PaperRepeats x) {
        StringBuilder text = new StringBuilder();
        int cells = x.count(0);
        for (int cell = 0; cell <= cells; cell++) {
            text.append(x.at(cell)).append(' ').append(x.ring(cell)).append(' ').append(x.sure(cell)).append(' ');
            text.append(x.first(cell)).append(' ').append(x.piece(cell)).append(' ');
            text.append(x.lead(1, cell)).append('\n');
        }
        for (int i = -1; i <= 9; i++) {
            text.append(x.count(i)).append(' ').append(x.kept(i)).append(' ').append(x.mirrored(i)).append(' ');
            text.append(x.keeper(i)).append(' ').append(x.paint(i, 0)).append('\n');
        }
        for (String asking : ASKING) {
            text.append(asking).append(' ').append(ask(x, asking)).append('\n');
        }
        return text.toString();
    }
}
