import java.util.ArrayList;
import java.util.List;

/** Boundary cases of promises 35 to 40: like ones, the first of them, pieces over the edge, counts. */
public final class LikeEdgesTest extends Sentences {
    public static void main(String[] args) {
        like();
        first();
        toFirst();
        piecesOfAllSizes();
        piecesBySides();
        piecesThatRunOn();
        piece();
        count();
        end(35, 40);
    }

    private static void like() {
        List<String> rows = new ArrayList<>();
        for (int w = 1; w <= 6; w++) {
            for (int h = 1; h <= 6; h++) {
                rows.add(call("patch", w, h) + " " + w * h);
                rows.add("like() 1");
                rows.add(call("dye", w * h - 1, 9) + " 0");
                rows.add("like() " + w * h);
            }
        }
        holds(35, "itself counted", rows);
        holds(35, "How many unlike ones are LIKE THE PATCH", "colours(4) 2",
            "rows 012000 300000 " + times(4, "000000"), "like() 288", "rows 012000 300000 " + times(3, "000000"),
            "like() 120", "rows 0101", "like() 2", "rows 012", "like() 6", "rows 9999", "like() 1", "rows 01 10",
            "like() 2", "rows 9", "like() 1");
    }

    private static void first() {
        holds(36, "9 behind all", "colours(4) 2", "rows 90", "first(*) 0 9 UNKNOWN", "rows 93",
            "first(*) 3 9 UNKNOWN", "rows 9", "first(*) 9 UNKNOWN", "rows 99 99", "first(*) 9 9 9 9 UNKNOWN",
            "rows 99 90", "first(*) 0 9 9 9 UNKNOWN");
        holds(36, "THE FIRST of them by COLOURS of CELLS in order", "colours(4) 2", "rows 3190", "first(*) 0 3 1 9",
            "rows 10 00 00", "first(*) 0 0 0 0 0 1", "rows 021", "first(*) 0 1 2", "rows 03 12", "first(*) 0 1 3 2",
            "cells 03 12");
        holds(36, "UNKNOWN", "first(0) 0", "first(15) 0", "first(16) UNKNOWN", "first(-1) UNKNOWN",
            "first(LOWEST) UNKNOWN", "first(HIGHEST) UNKNOWN", "patch(6, 6) 36", "dye(0, 1) 0", "first(0) 0",
            "first(35) 1", "first(36) UNKNOWN", "at(0) 1");
    }

    private static void toFirst() {
        holds(37, "The least MOVE that makes THE FIRST", "toFirst() 0", "patch(1, 1) 1", "dye(0, 9) 0", "toFirst() 0",
            "colours(4) 2", "rows 01", "toFirst() 0", "rows 100", "toFirst() 2", "rows 90", "toFirst() 1",
            "rows 1010", "toFirst() 1", "rows 021", "toFirst() 6", "rows 0 2 1", "toFirst() 6", "rows 99 90",
            "toFirst() 3", "rows 03 12", "toFirst() 4", "go(4) 2", "cells 01 32", "toFirst() 0",
            "rows 10000 00000 00000", "toFirst() 14");
    }

    private static void piecesOfAllSizes() {
        List<String> oneColour = new ArrayList<>();
        for (int w = 1; w <= 6; w++) {
            for (int h = 1; h <= 6; h++) {
                oneColour.add(call("patch", w, h) + " " + w * h);
                oneColour.add("pieces(false) 1");
                oneColour.add("pieces(true) 1");
                oneColour.add(call("piece", w * h - 1) + " " + w * h);
                holds(38, "from a CELL to the same CELL of another print",
                    "rows 0" + "9".repeat(w - 1) + (" " + "9".repeat(w)).repeat(h - 1), "pieces(false) 1",
                    "pieces(true) " + (w == 1 || h == 1 ? 1 : 0), "piece(0) 1");
            }
        }
        holds(38, "How many PIECES there are (runs = false), that RUN ON", oneColour);
        holds(38, "HIDDEN ones are none", "rows 9", "pieces(false) 0", "pieces(true) 0", "rows 9999 9999",
            "pieces(false) 0", "pieces(true) 0", "rows 9099 9999 9999", "pieces(false) 1", "pieces(true) 0");
    }

    private static void piecesBySides() {
        holds(38, "hang together by sides", "rows 0999 9099 9999 9999", "pieces(false) 2", "pieces(true) 0",
            "rows 010101 101010 010101 101010 010101 101010", "pieces(false) 36", "pieces(true) 0", "rows 01 10",
            "pieces(false) 4", "pieces(true) 0", "rows 0011 0011 1100 1100", "pieces(false) 4", "pieces(true) 0");
        holds(38, "on and on", "rows 0990 9999 9999 9999", "pieces(false) 1", "pieces(true) 0",
            "rows 0999 9999 9999 0999", "pieces(false) 1", "pieces(true) 0", "rows 0999 9999 9999 9990",
            "pieces(false) 2", "pieces(true) 0", "rows 0990 9999 9999 0990", "pieces(false) 1", "pieces(true) 0");
    }

    private static void piecesThatRunOn() {
        holds(38, "A PIECE RUNS ON", "rows 0000 9999 9999", "pieces(true) 1", "rows 099 099 099 099",
            "pieces(true) 1", "rows 0009 9999 9999", "pieces(false) 1", "pieces(true) 0", "rows 0001 9999 9999",
            "pieces(false) 2", "pieces(true) 0", "rows 01", "pieces(false) 2", "pieces(true) 2", "rows 0 1",
            "pieces(true) 2", "rows 00 99", "pieces(true) 1", "rows 00 11", "pieces(true) 2");
        holds(38, "if one can go in it from a CELL to the same CELL of another print", "rows 9999 9000 9090 9000",
            "pieces(false) 1", "pieces(true) 0", "rows 0000 0110 0110 0000", "pieces(false) 2", "pieces(true) 1",
            "rows 09999 00999 90099 99009 99900", "pieces(false) 1", "pieces(true) 0");
        holds(38, "if one can go in it from a CELL to the same CELL of another print",
            "rows 09990 00999 90099 99009 99900", "pieces(false) 1", "pieces(true) 1", "colours(3) 2",
            "rows 000 111 222", "pieces(false) 3", "pieces(true) 3");
    }

    private static void piece() {
        holds(39, "How many CELLS of THE PATCH the PIECE of a CELL has", "piece(0) 16", "piece(15) 16",
            "rows 0990 9999 9999 0990",
            "piece(*) 4 LATE LATE 4 LATE LATE LATE LATE LATE LATE LATE LATE 4 LATE LATE 4 UNKNOWN", "rows 01 10",
            "piece(*) 1 1 1 1 UNKNOWN", "rows 0110", "piece(*) 2 2 2 2", "patch(6, 6) 36", "piece(35) 36",
            "dye(35, 1) 0", "piece(0) 35", "piece(35) 1");
        holds(39, "UNKNOWN; LATE: it is HIDDEN", "dye(0, 9) 0", "piece(0) LATE", "piece(1) 15", "piece(16) UNKNOWN",
            "piece(-1) UNKNOWN", "piece(LOWEST) UNKNOWN", "piece(HIGHEST) UNKNOWN", "patch(1, 1) 1", "piece(0) 1",
            "piece(1) UNKNOWN", "dye(0, 9) 0", "piece(0) LATE", "piece(1) UNKNOWN", "patch(6, 6) 36", "piece(35) 36",
            "piece(36) UNKNOWN");
    }

    private static void count() {
        holds(40, "0 CELLS", "count(0) 16", "patch(1, 1) 1", "count(0) 1", "patch(6, 6) 36", "count(0) 36",
            "patch(7, 1) BAD", "count(0) 36");
        holds(40, "1 COLOURS", "count(1) 2", "colours(1) 2", "count(1) 1", "colours(4) 1", "count(1) 4",
            "colours(5) BAD", "count(1) 4", "patch(2, 2) 4", "count(1) 4");
        holds(40, "2 HIDDEN ones", "count(2) 0", "rows 99", "count(2) 2", "dye(0, 0) 9", "count(2) 1", "rows 9",
            "count(2) 1", "patch(6, 6) 36", "count(2) 0", "rows " + times(6, "999999"), "count(2) 36",
            "patch(6, 6) 36", "count(2) 0");
        holds(40, "3 TOLD MOVES", "count(3) 0", "tell(128) UNKNOWN", "count(3) 0", "tell(0) 1", "tell(0) 2",
            "tell(0) 3", "tell(0) 4", "count(3) 4", "tell(0) FULL", "count(3) 4", "untell() 4", "count(3) 0");
        holds(40, "4 COLOURS that CELLS have", "count(4) 1", "colours(4) 2", "count(4) 1", "rows 0123", "count(4) 4",
            "rows 3939", "count(4) 1", "rows 9", "count(4) 0", "rows " + times(6, "999999"), "count(4) 0", "rows 12",
            "count(4) 2", "colours(1) 4", "count(4) 1");
        holds(40, "BAD", "count(-1) BAD", "count(0) 16", "count(4) 1", "count(5) BAD", "count(9) BAD",
            "count(LOWEST) BAD", "count(HIGHEST) BAD");
    }
}
