import java.util.ArrayList;
import java.util.List;

/** Boundary cases of promises 25 to 34: none told and four, rings, hidden cells, papers of 25 cells and more. */
public final class ToldEdgesTest extends Sentences {
    public static void main(String[] args) {
        tell();
        untell();
        together();
        ringsOfAllSizes();
        ring();
        mend();
        mendNowOrNot();
        sure();
        torn();
        papers();
        papersOfAllSizes();
        upTo();
        upToLate();
        end(25, 34);
    }

    private static void tell() {
        holds(25, "4 at most; none at first", "count(3) 0", "tell(1) 1", "tell(1) 2", "tell(0) 3", "tell(127) 4",
            "tell(1) FULL", "tell(0) FULL", "count(3) 4", "untell() 4", "tell(1) 1");
        holds(25, "UNKNOWN; FULL", "tell(-1) UNKNOWN", "tell(128) UNKNOWN", "tell(LOWEST) UNKNOWN",
            "tell(HIGHEST) UNKNOWN", "count(3) 0", "tell(0) 1", "tell(0) 2", "tell(0) 3", "tell(0) 4",
            "tell(128) UNKNOWN", "tell(-1) UNKNOWN", "tell(127) FULL", "patch(3, 2) 6", "tell(6) UNKNOWN",
            "tell(35) 1", "tell(36) UNKNOWN", "count(3) 1");
        holds(25, "What is refused changes nothing", "tell(0) 1", "tell(0) 2", "tell(0) 3", "tell(128) UNKNOWN",
            "rings() 16", "tell(0) 4", "tell(1) FULL", "rings() 16", "together() 1", "ring(15) 15", "papers() 65536",
            "count(3) 4");
    }

    private static void untell() {
        holds(26, "No MOVES are TOLD: how many were", "untell() 0", "untell() 0", "tell(1) 1", "untell() 1",
            "tell(1) 1", "tell(4) 2", "tell(16) 3", "tell(64) 4", "rings() 1", "together() 128", "untell() 4",
            "count(3) 0", "rings() 16", "together() 1", "ring(15) 15", "papers() 65536", "untell() 0");
        holds(26, "No MOVES are TOLD", "rows 0191", "tell(1) 1", "untell() 1", "cells 0191", "mend(true) 0",
            "torn() 0", "sure(2) NONE");
    }

    private static void together() {
        holds(27, "the one that leaves all is among them", "together() 1", "tell(0) 1", "together() 1", "tell(0) 2",
            "together() 1", "patch(1, 1) 1", "together() 1", "tell(4) 1", "together() 2");
        holds(27, "all MOVES that come of them one behind the other", "tell(1) 1", "together() 4", "tell(1) 2",
            "together() 4", "tell(4) 3", "together() 16", "tell(16) 4", "together() 64", "patch(6, 6) 36",
            "tell(1) 1", "tell(36) 2", "together() 144", "tell(144) 3", "together() 288", "patch(6, 5) 30",
            "tell(7) 1", "together() 30", "tell(60) 2", "together() 60", "tell(120) 3", "together() 120",
            "patch(1, 1) 1", "tell(1) 1", "together() 4", "tell(4) 2", "together() 8");
    }

    private static void ringsOfAllSizes() {
        List<String> rows = new ArrayList<>();
        for (int w = 1; w <= 6; w++) {
            for (int h = 1; h <= 6; h++) {
                rows.add(call("patch", w, h) + " " + w * h);
                rows.add("rings() " + w * h);
                rows.add(call("tell", w > 1 ? 1 : 0) + " 1");
                rows.add("rings() " + h);
                rows.add(call("tell", h > 1 ? w : 0) + " 2");
                rows.add("rings() 1");
                rows.add(call("ring", w * h - 1) + " 0");
            }
        }
        holds(28, "How many RINGS there are", rows);
        holds(28, "if one of these leads from one to the other", "tell(0) 1", "rings() 16", "tell(32) 2",
            "rings() 10", "patch(5, 5) 25", "tell(25) 1", "rings() 7", "patch(1, 1) 1", "tell(7) 1", "rings() 1");
    }

    private static void ring() {
        holds(29, "The least CELL that GOES WITH one", "patch(4, 1) 4", "ring(*) 0 1 2 3 UNKNOWN", "tell(0) 1",
            "ring(*) 0 1 2 3", "untell() 1", "tell(2) 1", "ring(*) 0 1 0 1 UNKNOWN", "untell() 1", "tell(16) 1",
            "ring(*) 0 1 2 1", "tell(19) 2", "ring(*) 0 0 0 0 UNKNOWN", "patch(3, 3) 9", "tell(9) 1",
            "ring(*) 0 1 1 1 4 4 1 4 4 UNKNOWN");
        holds(29, "CELLS GO WITH one another", "patch(6, 6) 36", "tell(6) 1", "together() 6", "untell() 1",
            "tell(1) 1", "ring(7) 6", "ring(35) 30", "rings() 6");
        holds(29, "UNKNOWN", "ring(15) 15", "ring(16) UNKNOWN", "ring(-1) UNKNOWN", "ring(LOWEST) UNKNOWN",
            "ring(HIGHEST) UNKNOWN", "tell(1) 1", "ring(16) UNKNOWN", "patch(1, 1) 1", "ring(0) 0", "ring(1) UNKNOWN",
            "patch(6, 6) 36", "ring(35) 35", "ring(36) UNKNOWN");
    }

    private static void mend() {
        holds(30, "all CELLS get the COLOUR that most have", "rows 1101", "tell(1) 1", "mend(true) 1", "cells 1111",
            "colours(4) 2", "rows 0111 2322", "tell(1) 1", "mend(true) 2", "cells 1111 2222", "keeps(1) 1");
        holds(30, "HIDDEN ones not counted", "rows 9991", "tell(1) 1", "mend(true) 3", "cells 1111", "rows 990110",
            "tell(1) 1", "mend(true) 4", "cells 000000");
        holds(30, "of like ones the least", "colours(4) 2", "rows 3210", "tell(1) 1", "mend(true) 3", "cells 0000",
            "rows 3322", "tell(1) 1", "mend(true) 2", "cells 2222", "rows 2391", "tell(1) 1", "mend(true) 3",
            "cells 1111", "rows 332211", "tell(1) 1", "mend(true) 4", "cells 111111", "rows 03321", "tell(1) 1",
            "mend(true) 3", "cells 33333");
        holds(30, "if all are HIDDEN, they stay so", "rows 9999", "tell(1) 1", "mend(false) 0", "mend(true) 0",
            "cells 9999", "rows 9999 0999", "tell(1) 1", "mend(true) 3", "cells 9999 0000");
    }

    private static void mendNowOrNot() {
        holds(30, "How many CELLS would be painted (now = false)", "rows 0110 9101", "tell(1) 1", "mend(false) 4",
            "mend(false) 4", "cells 0110 9101", "count(2) 1", "torn() 2", "mend(true) 4", "cells 0000 1111",
            "mend(true) 0", "mend(false) 0", "torn() 0", "count(3) 1");
        holds(30, "HIDDEN ones that get a COLOUR count", "rows 9099", "mend(true) 0", "tell(1) 1", "mend(true) 3",
            "count(2) 0", "patch(6, 6) 36", "rows " + times(5, "999999") + " 999990", "tell(1) 1", "tell(6) 2",
            "mend(false) 35", "mend(true) 35", "count(2) 0", "count(4) 1");
        holds(30, "none at first", "colours(4) 2", "rows 0123 9990", "mend(false) 0", "mend(true) 0",
            "cells 0123 9990", "tell(0) 1", "mend(true) 0", "cells 0123 9990");
    }

    private static void sure() {
        holds(31, "have all one COLOUR, and there are some", "colours(4) 2", "rows 9990", "tell(1) 1", "sure(0) 0",
            "sure(2) 0", "rows 9999", "tell(1) 1", "sure(0) NONE", "rows 9901", "tell(1) 1", "sure(0) NONE",
            "rows 9333", "tell(1) 1", "sure(0) 3", "rows 9111 2922", "tell(1) 1", "sure(0) 1", "sure(5) 2",
            "cells 9111 2922");
        holds(31, "none at first", "rows 9000", "sure(0) NONE", "tell(0) 1", "sure(0) NONE", "tell(1) 2", "sure(0) 0",
            "untell() 2", "sure(0) NONE");
        holds(31, "UNKNOWN; LATE: it is not HIDDEN", "rows 0990", "tell(1) 1", "sure(0) LATE", "sure(3) LATE",
            "sure(4) UNKNOWN", "sure(-1) UNKNOWN", "sure(LOWEST) UNKNOWN", "sure(HIGHEST) UNKNOWN", "sure(1) 0",
            "mend(true) 2", "sure(1) LATE");
    }

    private static void torn() {
        holds(32, "a RING with two COLOURS is TORN", "colours(4) 2", "rows 0001", "torn() 0", "tell(0) 1", "torn() 0",
            "tell(1) 2", "torn() 1", "rows 0123", "tell(1) 1", "torn() 1", "rows 9990", "tell(1) 1", "torn() 0",
            "rows 9999", "tell(1) 1", "torn() 0", "rows 9910", "tell(1) 1", "torn() 1");
        holds(32, "How many RINGS are TORN", "rows 0101 1111 0111 9999", "tell(1) 1", "torn() 2", "tell(4) 2",
            "torn() 1", "untell() 2", "tell(4) 1", "torn() 2", "patch(1, 1) 1", "tell(7) 1", "torn() 0");
    }

    private static void papers() {
        holds(33, "how many ways there are to colour all CELLS so that they KEEP it", "papers() 65536", "dye(0, 9) 0",
            "papers() 65536", "tell(1) 1", "papers() 16", "tell(4) 2", "papers() 2", "colours(1) 2", "papers() 1",
            "untell() 2", "papers() 1", "patch(1, 1) 1", "papers() 1", "colours(4) 1", "papers() 4");
        holds(33, "LATE: THE PATCH has more than 25 CELLS", "colours(4) 2", "patch(5, 5) 25",
            "papers() 1125899906842624", "patch(6, 4) 24", "papers() 281474976710656", "patch(4, 6) 24",
            "papers() 281474976710656", "patch(5, 6) 30", "papers() LATE", "patch(6, 5) 30", "papers() LATE",
            "patch(6, 6) 36", "papers() LATE", "tell(1) 1", "tell(6) 2", "rings() 1", "papers() LATE", "colours(1) 4",
            "papers() LATE");
    }

    private static void papersOfAllSizes() {
        List<String> rows = new ArrayList<>();
        for (int w = 1; w <= 6; w++) {
            for (int h = 1; h <= 6; h++) {
                rows.add(call("patch", w, h) + " " + w * h);
                rows.add("papers()" + (w * h > 25 ? " LATE" : " " + (1L << w * h)));
            }
        }
        holds(33, "PAPERS by TOLD MOVES", rows);
    }

    private static void upTo() {
        holds(34, "if those that a MOVE leads to one another count as one", "patch(1, 1) 1", "upTo() 2",
            "patch(2, 2) 4", "upTo() 6", "patch(3, 3) 9", "upTo() 26", "patch(4, 4) 16", "upTo() 805",
            "patch(5, 5) 25", "upTo() 172112", "patch(2, 3) 6", "upTo() 13", "patch(4, 3) 12", "upTo() 158",
            "patch(6, 2) 12", "upTo() 237");
        int[][] strips = {{1, 1, 1, 1, 1, 1}, {2, 3, 4, 6, 8, 13}, {3, 6, 10, 21, 39, 92}, {4, 10, 20, 55, 136, 430}};
        List<String> rows = new ArrayList<>(List.of("colours(1) 2"));
        for (int k = 1; k <= 4; k++) {
            rows.add(call("colours", k) + " " + Math.max(1, k - 1));
            for (int length = 1; length <= 6; length++) {
                rows.add(call("patch", length, 1) + " " + length);
                rows.add("upTo() " + strips[k - 1][length - 1]);
                rows.add(call("patch", 1, length) + " " + length);
                rows.add("upTo() " + strips[k - 1][length - 1]);
            }
        }
        holds(34, "PAPERS UP TO ALL MOVES", rows);
        holds(34, "PAPERS UP TO ALL MOVES", "rows 09 10", "upTo() 6", "tell(1) 1", "tell(2) 2", "papers() 2",
            "upTo() 6");
    }

    private static void upToLate() {
        holds(34, "LATE: more than 25 CELLS", "colours(4) 2", "patch(5, 5) 25", "upTo() 5629615301248",
            "patch(6, 4) 24", "upTo() 2933619951836", "patch(4, 6) 24", "upTo() 2933619951836", "patch(5, 6) 30",
            "upTo() LATE", "patch(6, 5) 30", "upTo() LATE", "patch(6, 6) 36", "upTo() LATE", "colours(1) 4",
            "upTo() LATE", "patch(5, 5) 25", "upTo() 1");
    }
}
