import java.util.ArrayList;
import java.util.List;

/** Boundary cases of promises 7 to 15: which moves there are, where they lead, which keep the patch. */
public final class MoveEdgesTest extends Sentences {
    /** Every call that asks for a move, with the move left open. */
    private static final String[] ASKING = {
        "lead(#, 0)", "behind(#, 0)", "behind(0, #)", "back(#)", "order(#)", "keeps(#)", "go(#)", "mirror(#)",
        "keepsBy(#, 0)", "by(#)", "tell(#)",
    };

    public static void main(String[] args) {
        moves();
        boundsOfMoves();
        turnsThatAreNotThere();
        lead();
        leadRefused();
        behind();
        back();
        order();
        keeps();
        kept();
        keeper();
        go();
        end(7, 15);
    }

    private static void moves() {
        List<String> rows = new ArrayList<>();
        for (int w = 1; w <= 6; w++) {
            for (int h = 1; h <= 6; h++) {
                rows.add(call("patch", w, h) + " " + w * h);
                rows.add("moves() " + (w == h ? 8 : 4) * w * h);
            }
        }
        holds(7, "How many MOVES there are", rows);
        holds(7, "How many MOVES there are", "patch(1, 1) 1", "moves() 8", "patch(6, 6) 36", "moves() 288",
            "dye(0, 9) 0", "tell(1) 1", "moves() 288", "patch(1, 2) 2", "moves() 8", "patch(7, 7) BAD", "moves() 8");
    }

    private static void addUnknown(List<String> rows, String move) {
        for (String asking : ASKING) {
            rows.add(asking.replace("#", move) + " UNKNOWN");
        }
    }

    private static void boundsOfMoves() {
        for (int w = 1; w <= 6; w++) {
            List<String> square = new ArrayList<>(List.of(call("patch", w, w) + " " + w * w));
            square.add("keeps(0) 1");
            square.add(call("keeps", 8 * w * w - 1) + " 1");
            addUnknown(square, "-1");
            addUnknown(square, Integer.toString(8 * w * w));
            addUnknown(square, "LOWEST");
            addUnknown(square, "HIGHEST");
            square.add("count(3) 0");
            holds(0, "there is no such CELL, MOVE, PAINT", square);
        }
    }

    private static void turnsThatAreNotThere() {
        int[] absent = {1, 3, 6, 7};
        int[] present = {0, 2, 4, 5};
        for (int w = 1; w <= 6; w++) {
            for (int h = 1; h <= 6; h++) {
                if (w == h) {
                    continue;
                }
                int cells = w * h;
                List<String> rows = new ArrayList<>(List.of(call("patch", w, h) + " " + cells));
                for (int turn : absent) {
                    addUnknown(rows, Integer.toString(turn * cells));
                    addUnknown(rows, Integer.toString(turn * cells + cells - 1));
                }
                for (int turn : present) {
                    rows.add(call("keeps", turn * cells) + " 1");
                    rows.add(call("keeps", turn * cells + cells - 1) + " 1");
                }
                addUnknown(rows, Integer.toString(8 * cells));
                rows.add("count(3) 0");
                holds(0, "TURNS 1, 3, 6, 7 are there only if W is H", rows);
            }
        }
    }

    private static void lead() {
        holds(8, "TURN t leads x, y to", "patch(3, 3) 9", "lead(0, *) 0 1 2 3 4 5 6 7 8",
            "lead(9, *) 0 3 6 2 5 8 1 4 7", "lead(18, *) 0 2 1 6 8 7 3 5 4", "lead(27, *) 0 6 3 1 7 4 2 8 5",
            "lead(36, *) 0 2 1 3 5 4 6 8 7", "lead(45, *) 0 1 2 6 7 8 3 4 5", "lead(54, *) 0 3 6 1 4 7 2 5 8",
            "lead(63, *) 0 6 3 2 8 5 1 7 4");
        holds(8, "then a shift by the CELL's x and y", "patch(3, 3) 9", "lead(10, *) 1 4 7 0 3 6 2 5 8",
            "lead(8, *) 8 6 7 2 0 1 5 3 4", "lead(12, *) 3 6 0 5 8 2 4 7 1");
        holds(8, "it is printed on and on", "patch(1, 6) 6", "lead(5, *) 5 0 1 2 3 4", "lead(12, *) 0 5 4 3 2 1",
            "lead(24, *) 0 1 2 3 4 5", "lead(30, *) 0 5 4 3 2 1", "patch(6, 1) 6", "lead(5, *) 5 0 1 2 3 4",
            "lead(12, *) 0 5 4 3 2 1", "lead(24, *) 0 5 4 3 2 1", "lead(30, *) 0 1 2 3 4 5", "patch(1, 1) 1",
            "lead(*, 0) 0 0 0 0 0 0 0 0");
    }

    private static void leadRefused() {
        holds(8, "UNKNOWN", "patch(2, 2) 4", "lead(31, 3) 0", "lead(32, 3) UNKNOWN", "lead(31, 4) UNKNOWN",
            "lead(0, -1) UNKNOWN", "lead(-1, 0) UNKNOWN", "lead(32, 4) UNKNOWN", "lead(-1, -1) UNKNOWN",
            "lead(0, LOWEST) UNKNOWN", "lead(0, HIGHEST) UNKNOWN", "lead(LOWEST, 0) UNKNOWN",
            "lead(HIGHEST, 0) UNKNOWN", "patch(2, 3) 6", "lead(35, 5) 0", "lead(36, 5) UNKNOWN", "lead(5, 6) UNKNOWN",
            "lead(6, 6) UNKNOWN");
    }

    private static void behind() {
        holds(9, "The MOVE that two make", "patch(1, 1) 1", "behind(0, *) 0 1 2 3 4 5 6 7",
            "behind(1, *) 1 2 3 0 6 7 5 4", "behind(2, *) 2 3 0 1 5 4 7 6", "behind(3, *) 3 0 1 2 7 6 4 5",
            "behind(4, *) 4 7 5 6 0 2 3 1", "behind(5, *) 5 6 4 7 2 0 1 3", "behind(6, *) 6 4 7 5 1 3 0 2",
            "behind(7, *) 7 5 6 4 3 1 2 0");
        holds(9, "one behind the other", "patch(3, 3) 9", "behind(9, 1) 10", "behind(1, 9) 12", "behind(8, 8) 4",
            "behind(8, 4) 0", "behind(71, 0) 71", "behind(0, 71) 71", "behind(71, 71) 0", "behind(0, 0) 0");
        holds(9, "x is counted by W, y by H", "patch(5, 2) 10", "behind(9, 9) 3", "behind(4, 1) 0", "behind(5, 5) 0",
            "behind(20, 44) 54", "behind(44, 20) 51");
        holds(9, "UNKNOWN", "patch(3, 3) 9", "behind(71, 71) 0", "behind(72, 0) UNKNOWN", "behind(0, 72) UNKNOWN",
            "behind(72, 72) UNKNOWN", "behind(-1, 0) UNKNOWN", "behind(0, -1) UNKNOWN",
            "behind(LOWEST, HIGHEST) UNKNOWN", "patch(3, 2) 6", "behind(35, 35) 1", "behind(35, 6) UNKNOWN",
            "behind(6, 35) UNKNOWN");
    }

    private static void back() {
        holds(10, "The MOVE that undoes one", "patch(1, 1) 1", "back(*) 0 3 2 1 4 5 6 7", "patch(3, 3) 9",
            "back(*) 0 2 1 6 8 7 3 5 4 27", "back(10) 30", "back(30) 10", "back(18) 18", "back(26) 26", "back(36) 36",
            "back(37) 37", "back(39) 42", "back(71) 71");
        holds(10, "x is counted by W, y by H", "patch(6, 6) 36", "back(35) 7", "back(7) 35", "back(3) 3",
            "back(18) 18", "patch(1, 6) 6", "back(5) 1", "back(29) 25", "patch(6, 1) 6", "back(5) 1", "back(29) 29",
            "back(35) 31");
        holds(10, "UNKNOWN", "patch(2, 2) 4", "back(31) 31", "back(32) UNKNOWN", "back(-1) UNKNOWN",
            "back(LOWEST) UNKNOWN", "back(HIGHEST) UNKNOWN", "patch(1, 2) 2", "back(11) 11", "back(12) UNKNOWN",
            "back(2) UNKNOWN");
    }

    private static void order() {
        holds(11, "how often it is done till each CELL is where it was", "patch(1, 1) 1", "order(*) 1 1 1 1 1 1 1 1",
            "patch(2, 2) 4", "order(*) 1 2 2 2 2 4 4 2 1 2 2 2 2 4 4 2 1 2 2 2 1 2 2 2 2 4 4 2 2 4 4 2");
        holds(11, "THE ORDER of a MOVE", "patch(6, 5) 30", "order(0) 1", "order(7) 30", "order(29) 30",
            "order(126) 10", "order(151) 6", "patch(5, 6) 30", "order(6) 30", "order(125) 6", "order(151) 10",
            "patch(6, 6) 36", "order(1) 6", "order(7) 6", "order(36) 4", "order(217) 12", "order(216) 2",
            "order(287) 2", "order(253) 12", "patch(1, 6) 6", "order(1) 6", "order(3) 2", "order(24) 1",
            "order(12) 2");
        holds(11, "UNKNOWN", "patch(2, 1) 2", "order(0) 1", "order(11) 2", "order(12) UNKNOWN", "order(2) UNKNOWN",
            "order(-1) UNKNOWN", "order(LOWEST) UNKNOWN", "order(HIGHEST) UNKNOWN");
    }

    private static void keeps() {
        holds(12, "each CELL has the COLOUR (or is HIDDEN) like the CELL to which it leads", "rows 09", "keeps(1) 0",
            "rows 99", "keeps(1) 1", "rows 19", "keeps(1) 0", "rows 11", "keeps(1) 1", "rows 01", "keeps(1) 0",
            "keeps(0) 1");
        holds(12, "1, 0", "patch(1, 1) 1", "keeps(*) 1 1 1 1 1 1 1 1", "dye(0, 9) 0", "keeps(*) 1 1 1 1 1 1 1 1",
            "rows 01 00", "keeps(*) 1 0 0 0 0 0 0 1 1 0 0 0 0 0 0 1 1 0 0 0 1 0 0 0 0 0 0 1 0 0 0 1");
        holds(12, "UNKNOWN", "patch(2, 2) 4", "keeps(31) 1", "keeps(32) UNKNOWN", "keeps(-1) UNKNOWN",
            "keeps(LOWEST) UNKNOWN", "keeps(HIGHEST) UNKNOWN", "patch(2, 1) 2", "keeps(1) 1", "keeps(2) UNKNOWN",
            "keeps(11) 1", "keeps(12) UNKNOWN");
    }

    private static void kept() {
        holds(13, "8: of all", "kept(*) 16 16 16 16 16 16 16 16 128", "patch(1, 1) 1", "kept(*) 1 1 1 1 1 1 1 1 8",
            "patch(6, 6) 36", "kept(*) 36 36 36 36 36 36 36 36 288", "patch(2, 3) 6", "kept(*) 6 0 6 0 6 6 0 0 24");
        holds(13, "How many MOVES of a TURN KEEP it", "colours(3) 2", "rows 000 001 022", "kept(*) 1 0 0 0 0 0 0 0 1",
            "rows 9999", "kept(*) 4 0 4 0 4 4 0 0 16", "rows 9990", "kept(*) 1 0 1 0 1 1 0 0 4");
        holds(13, "BAD", "kept(-1) BAD", "kept(0) 16", "kept(8) 128", "kept(9) BAD", "kept(LOWEST) BAD",
            "kept(HIGHEST) BAD");
    }

    private static void keeper() {
        holds(14, "The i-th MOVE that KEEPS it; NONE", "patch(1, 1) 1", "keeper(*) 0 1 2 3 4 5 6 7 NONE",
            "patch(2, 1) 2", "keeper(*) 0 1 4 5 8 9 10 11 NONE NONE NONE", "patch(6, 6) 36", "keeper(287) 287",
            "keeper(288) NONE", "colours(3) 2", "rows 000 001 022", "keeper(*) 0 NONE NONE");
        holds(14, "NONE", "keeper(127) 127", "keeper(128) NONE", "keeper(-1) NONE", "keeper(LOWEST) NONE",
            "keeper(HIGHEST) NONE");
    }

    private static void go() {
        holds(15, "what it has in a CELL comes to where that leads", "colours(4) 2", "rows 012", "go(1) 3",
            "cells 201", "go(2) 3", "cells 012", "rows 900", "go(1) 2", "cells 090", "rows 001", "go(1) 2",
            "cells 100", "rows 123 000 000", "go(9) 4", "cells 100 200 300");
        holds(15, "how many CELLS are otherwise", "go(0) 0", "go(127) 0", "rows 01", "go(1) 2", "go(0) 0", "rows 99",
            "go(1) 0", "rows 0101", "go(2) 0", "go(1) 4", "patch(6, 6) 36", "dye(0, 1) 0", "go(1) 2", "at(1) 1",
            "go(35) 2", "at(30) 1", "patch(1, 1) 1", "go(7) 0");
        holds(15, "THE PATCH is moved", "rows 100 000", "tell(1) 1", "go(3) 2", "cells 000 100", "count(3) 1",
            "rings() 2");
        holds(15, "UNKNOWN", "rows 01", "go(2) UNKNOWN", "go(-1) UNKNOWN", "go(12) UNKNOWN", "go(LOWEST) UNKNOWN",
            "go(HIGHEST) UNKNOWN", "cells 01", "go(11) 2", "cells 10");
    }
}
