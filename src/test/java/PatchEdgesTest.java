import java.util.ArrayList;
import java.util.List;

/** Boundary cases of promises 1 to 6: sizes, colours, cells and figures. */
public final class PatchEdgesTest extends Sentences {
    public static void main(String[] args) {
        newObject();
        sizes();
        anotherPatch();
        wrapAround();
        colours();
        dye();
        dyesCells();
        dyesRefused();
        at();
        end(1, 6);
    }

    private static void newObject() {
        holds(1, "4 by 4 CELLS of COLOUR 0", "cells 0000 0000 0000 0000", "at(-1) UNKNOWN", "count(0) 16",
            "lead(1, 2) 3", "lead(1, 3) 0", "lead(4, 11) 15", "lead(4, 12) 0");
        holds(1, "2 at first", "count(1) 2", "paints() 2", "dye(0, 1) 0", "dye(0, 2) BAD", "colours(2) 2");
        holds(1, "0 at first", "count(2) 0", "count(4) 1", "dye(0, 0) 0", "dye(15, 0) 0");
        holds(1, "none at first", "count(3) 0", "untell() 0", "together() 1", "rings() 16");
    }

    private static void sizes() {
        List<String> all = new ArrayList<>();
        List<String> cells = new ArrayList<>();
        for (int w = -1; w <= 8; w++) {
            for (int h = -1; h <= 8; h++) {
                boolean isSize = w >= 1 && w <= 6 && h >= 1 && h <= 6;
                all.add(call("patch", w, h) + (isSize ? " " + w * h : " BAD"));
                if (isSize) {
                    cells.add(call("patch", w, h) + " " + w * h);
                    cells.add("count(0) " + w * h);
                    cells.add(call("at", w * h - 1) + " 0");
                    cells.add(call("at", w * h) + " UNKNOWN");
                }
            }
        }
        holds(2, "6 each", all);
        holds(2, "how many CELLS", cells);
        holds(2, "BAD", "patch(LOWEST, 3) BAD", "patch(3, LOWEST) BAD", "patch(HIGHEST, 3) BAD",
            "patch(3, HIGHEST) BAD", "patch(65536, 65536) BAD", "patch(-2, -2) BAD", "patch(0, 0) BAD",
            "patch(LOWEST, LOWEST) BAD", "cells 0000 0000 0000 0000", "lead(1, 3) 0", "lead(4, 12) 0");
    }

    private static void anotherPatch() {
        String full = times(6, "999999");
        String empty = times(6, "000000");
        holds(2, "Another PATCH of COLOUR 0", "colours(4) 2", "rows 1239 9321", "patch(4, 2) 8", "cells 0000 0000",
            "rows " + full, "patch(1, 1) 1", "cells 0", "patch(6, 6) 36", "cells " + empty, "count(1) 4");
        holds(2, "no TOLD MOVES", "tell(1) 1", "tell(4) 2", "tell(5) 3", "tell(0) 4", "tell(1) FULL", "rings() 1",
            "patch(4, 4) 16", "count(3) 0", "rings() 16", "ring(15) 15", "together() 1", "tell(1) 1", "rings() 4");
        holds(2, "What is refused changes nothing", "colours(4) 2", "rows 1239 9321", "tell(1) 1", "patch(0, 2) BAD",
            "patch(4, 7) BAD", "patch(1, 0) BAD", "cells 1239 9321", "count(3) 1", "count(1) 4", "rings() 2",
            "lead(1, 3) 0", "lead(4, 0) 4");
    }

    private static void wrapAround() {
        List<String> rows = new ArrayList<>();
        for (int w = 1; w <= 6; w++) {
            for (int h = 1; h <= 6; h++) {
                int last = w * h - 1;
                rows.add(call("patch", w, h) + " " + w * h);
                rows.add(call("lead", last, 0) + " " + last);
                rows.add(call("lead", last, last) + " " + ((2 * h - 2) % h * w + (2 * w - 2) % w));
                if (w > 1) {
                    rows.add(call("lead", 1, w - 1) + " 0");
                    rows.add(call("lead", 1, last) + " " + (last - w + 1));
                }
                if (h > 1) {
                    rows.add(call("lead", w, last - w + 1) + " 0");
                    rows.add(call("lead", w, last) + " " + (w - 1));
                }
            }
        }
        holds(0, "x is counted by W, y by H", rows);
        holds(0, "CELL y W + x", "rows 001 000", "go(3) 2", "cells 000 001", "go(1) 2", "cells 000 100");
    }

    private static void colours() {
        holds(3, "k 1 .. 4", "colours(0) BAD", "colours(1) 2", "colours(4) 1", "colours(5) BAD", "colours(-1) BAD",
            "colours(9) BAD", "colours(LOWEST) BAD", "colours(HIGHEST) BAD", "count(1) 4");
        holds(3, "how many there were", "colours(2) 2", "colours(1) 2", "colours(1) 1", "colours(2) 1",
            "colours(3) 2", "colours(4) 3", "colours(0) BAD", "colours(3) 4", "count(1) 3");
        holds(3, "CELLS of others get 0", "colours(4) 2", "rows 01239 32109", "colours(4) 4", "cells 01239 32109",
            "colours(3) 4", "cells 01209 02109", "colours(2) 3", "cells 01009 00109", "colours(1) 2",
            "cells 00009 00009", "colours(4) 1", "cells 00009 00009");
        holds(3, "What is refused changes nothing", "colours(4) 2", "rows 0123", "tell(1) 1", "colours(0) BAD",
            "colours(5) BAD", "cells 0123", "count(1) 4", "count(3) 1", "paints() 24");
    }

    private static void dye() {
        for (int k = 1; k <= 4; k++) {
            List<String> rows = new ArrayList<>();
            rows.add(call("colours", k) + " 2");
            int before = 0;
            for (int colour = -2; colour <= 11; colour++) {
                boolean isColour = colour >= 0 && colour < k || colour == 9;
                rows.add(call("dye", 0, colour) + (isColour ? " " + before : " BAD"));
                before = isColour ? colour : before;
                rows.add("at(0) " + before);
            }
            holds(4, "COLOURS 0 .. k - 1", rows);
        }
        holds(4, "9: HIDDEN", "dye(3, 9) 0", "dye(3, 9) 9", "at(3) 9", "count(2) 1", "dye(3, 1) 9", "at(3) 1",
            "count(2) 0");
        holds(4, "which it had", "dye(0, 0) 0", "dye(0, 1) 0", "dye(0, 1) 1", "dye(0, 2) BAD", "dye(0, 0) 1",
            "dye(0, 9) 0");
        holds(4, "UNKNOWN; BAD", "dye(0, 1) 0", "dye(15, 1) 0", "dye(16, 1) UNKNOWN", "dye(-1, 1) UNKNOWN",
            "dye(LOWEST, 1) UNKNOWN", "dye(HIGHEST, 1) UNKNOWN", "dye(16, 2) UNKNOWN", "dye(-1, -1) UNKNOWN",
            "dye(1, 2) BAD", "dye(1, LOWEST) BAD", "dye(1, HIGHEST) BAD", "cells 1000 0000 0000 0001");
        holds(4, "there is no such CELL", "patch(2, 1) 2", "dye(1, 1) 0", "dye(2, 1) UNKNOWN", "dye(15, 1) UNKNOWN",
            "cells 01", "patch(6, 6) 36", "cells " + times(6, "000000"), "dye(35, 1) 0", "dye(36, 1) UNKNOWN");
    }

    private static void dyesCells() {
        holds(5, "m CELLS from one on", "patch(3, 3) 9", "dyes(0, 9, 111111111) 9", "cells 111 111 111",
            "dyes(2, 2, 0) 2", "cells 110 011 111", "dyes(8, 1, 0) 1", "cells 110 011 110", "dyes(0, 1, 0) 1",
            "cells 010 011 110");
        holds(5, "tens, 0s ahead; the last CELL by the last figure", "colours(4) 2", "patch(3, 3) 9",
            "dyes(0, 9, 12) 2", "cells 000 000 012", "dyes(3, 3, 900) 1", "cells 000 900 012", "dyes(0, 9, 0) 3",
            "cells 000 000 000", "dyes(1, 4, 3) 1", "cells 000 030 000");
        holds(5, "how many are otherwise then", "patch(3, 3) 9", "dyes(0, 9, 0) 0", "dyes(0, 9, 999999999) 9",
            "dyes(0, 9, 999999999) 0", "dyes(0, 9, 999909999) 1", "dyes(4, 1, 0) 0", "dyes(4, 1, 9) 1",
            "dyes(0, 9, 0) 9");
        List<String> figures = new ArrayList<>(List.of("patch(6, 6) 36"));
        int bound = 1;
        for (int m = 1; m <= 9; m++) {
            bound *= 10;
            figures.add(call("dyes", 0, m, bound - 1) + " 1");
            figures.add(call("dyes", 0, m, bound) + " BAD");
            figures.add(call("dyes", 0, m, bound - 1) + " 0");
        }
        figures.add("dyes(0, 9, HIGHEST) BAD");
        figures.add("dyes(0, 1, HIGHEST) BAD");
        holds(5, "has more figures", figures);
    }

    private static void dyesRefused() {
        List<String> tooMany = new ArrayList<>(List.of("patch(3, 3) 9"));
        for (int cell = 0; cell < 9; cell++) {
            tooMany.add(call("dyes", cell, 9 - cell, 0) + " 0");
            tooMany.add(call("dyes", cell, 10 - cell, 0) + " UNKNOWN");
        }
        holds(5, "there are not so many", tooMany);
        holds(5, "UNKNOWN: cell", "dyes(0, 1, 0) 0", "dyes(15, 1, 0) 0", "dyes(16, 1, 0) UNKNOWN",
            "dyes(-1, 1, 0) UNKNOWN", "dyes(-1, 2, 0) UNKNOWN", "dyes(LOWEST, 1, 0) UNKNOWN",
            "dyes(HIGHEST, 1, 0) UNKNOWN", "dyes(HIGHEST, HIGHEST, 0) UNKNOWN",
            "dyes(LOWEST, HIGHEST, HIGHEST) UNKNOWN");
        holds(5, "BAD: m (1 .. 9)", "patch(6, 6) 36", "dyes(0, 0, 0) BAD", "dyes(0, 1, 0) 0", "dyes(0, 9, 0) 0",
            "dyes(0, 10, 0) BAD", "dyes(0, 36, 0) BAD", "dyes(0, 37, 0) UNKNOWN", "dyes(27, 9, 0) 0",
            "dyes(27, 10, 0) UNKNOWN", "dyes(26, 10, 0) BAD", "dyes(0, -1, 0) BAD", "dyes(0, LOWEST, 0) BAD",
            "dyes(35, LOWEST, 0) BAD");
        holds(5, "n is less than 0", "dyes(0, 1, -1) BAD", "dyes(0, 9, LOWEST) BAD", "dyes(0, 3, -101) BAD",
            "dyes(0, 1, -9) BAD", "dyes(0, 1, -10) BAD", "dyes(0, 1, 0) 0");
        holds(5, "a figure is no COLOUR", "colours(4) 2", "dyes(0, 3, 333) 3", "dyes(0, 3, 433) BAD",
            "dyes(0, 3, 343) BAD", "dyes(0, 3, 334) BAD", "dyes(0, 3, 335) BAD", "dyes(0, 3, 363) BAD",
            "dyes(0, 3, 733) BAD", "dyes(0, 3, 338) BAD", "dyes(0, 3, 399) 2", "colours(1) 4", "dyes(0, 3, 1) BAD",
            "dyes(0, 3, 100) BAD", "dyes(0, 3, 900) 3");
        holds(5, "Of several what is told first", "dyes(16, 0, -1) UNKNOWN", "dyes(15, 2, -1) UNKNOWN",
            "dyes(15, 2, 22) UNKNOWN", "dyes(10, 10, -1) UNKNOWN", "dyes(0, 17, 0) UNKNOWN", "dyes(0, 16, 0) BAD");
        holds(5, "What is refused changes nothing", "patch(3, 3) 9", "dyes(0, 9, 101010101) 5",
            "dyes(0, 9, 10101012) BAD", "dyes(0, 9, 210101010) BAD", "dyes(0, 3, 1010) BAD", "dyes(1, 9, 0) UNKNOWN",
            "dyes(0, 4, -1) BAD", "cells 101 010 101");
    }

    private static void at() {
        holds(6, "The COLOUR of a CELL; 9", "colours(4) 2", "rows 012 399", "at(*) 0 1 2 3 9 9");
        holds(6, "UNKNOWN", "patch(1, 1) 1", "at(0) 0", "at(1) UNKNOWN", "at(-1) UNKNOWN", "at(9) UNKNOWN",
            "patch(6, 6) 36", "at(35) 0", "at(36) UNKNOWN", "at(LOWEST) UNKNOWN", "at(HIGHEST) UNKNOWN");
    }
}
