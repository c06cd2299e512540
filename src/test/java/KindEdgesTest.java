import java.util.ArrayList;
import java.util.List;

/** Boundary cases of promises 16 to 19: least patches, mirrors and each word of the kinds. */
public final class KindEdgesTest extends Sentences {
    public static void main(String[] args) {
        least();
        mirrored();
        mirrorsOfAllSizes();
        mirrorRefused();
        kindsOfEmptyAndFull();
        kindsWithoutMirrorTurns();
        kindsWithQuarter();
        kindsWithHalf();
        kindsWithNeither();
        end(16, 19);
    }

    private static void least() {
        List<String> rows = new ArrayList<>();
        for (int w = 1; w <= 6; w++) {
            for (int h = 1; h <= 6; h++) {
                rows.add(call("patch", w, h) + " " + w * h);
                rows.add("least() 1");
                rows.add(call("dye", w * h - 1, 9) + " 0");
                rows.add("least() " + w * h);
            }
        }
        holds(16, "THE LEAST PATCH has as many CELLS as THE PATCH by how many SHIFTS KEEP it", rows);
        holds(16, "SHIFTS that KEEP it: MOVES of TURN 0", "rows 010", "kept(8) 4", "least() 3", "rows 010101",
            "least() 2", "rows 001001", "least() 3", "rows 0 1 0 1 0 1", "least() 2", "rows 01 10", "least() 2",
            "rows 9999 9999", "least() 1", "rows 9090", "least() 2", "rows 0110 1001 1001 0110", "least() 8");
    }

    private static void mirrored() {
        holds(17, "Whether a TURN 4 .. 7 is MIRRORED: 1, 0", "patch(1, 1) 1", "mirrored(4) 1", "mirrored(5) 1",
            "mirrored(6) 1", "mirrored(7) 1", "colours(3) 2", "rows 000 001 022", "mirrored(4) 0", "mirrored(5) 0",
            "mirrored(6) 0", "mirrored(7) 0");
        holds(17, "MIRRORED those with a MIRROR that KEEPS it", "rows 110 100 011 001", "kept(4) 1", "mirrored(4) 0",
            "rows 001101 111111 101111 101001 111111 111101", "kept(6) 2", "mirrored(6) 0", "kept(7) 0",
            "mirrored(7) 0");
        holds(17, "TURNS 1, 3, 6, 7 are there only if W is H", "patch(5, 6) 30", "mirrored(4) 1", "mirrored(5) 1",
            "mirrored(6) 0", "mirrored(7) 0");
        holds(17, "BAD", "mirrored(3) BAD", "mirrored(4) 1", "mirrored(7) 1", "mirrored(8) BAD", "mirrored(0) BAD",
            "mirrored(-1) BAD", "mirrored(LOWEST) BAD", "mirrored(HIGHEST) BAD", "patch(2, 3) 6", "mirrored(3) BAD",
            "mirrored(8) BAD");
    }

    /** The document's words for a mirror of a turn. */
    private static boolean isMirror(int w, int turn, int x, int y) {
        return turn == 4 && y == 0 || turn == 5 && x == 0 || turn == 6 && (x + y == 0 || x + y == w)
            || turn == 7 && x == y;
    }

    private static void mirrorsOfAllSizes() {
        for (int w = 1; w <= 6; w++) {
            for (int h = 1; h <= 6; h++) {
                List<String> rows = new ArrayList<>(List.of(call("patch", w, h) + " " + w * h));
                for (int turn = 4; turn < (w == h ? 8 : 6); turn++) {
                    for (int cell = 0; cell < w * h; cell++) {
                        boolean is = isMirror(w, turn, cell % w, cell / w);
                        rows.add(call("mirror", turn * w * h + cell) + (is ? " 1" : " 0"));
                    }
                }
                holds(18, "if it shifts by nothing along its axis", rows);
            }
        }
    }

    private static void mirrorRefused() {
        holds(18, "Whether a MOVE of TURNS 4 .. 7 is a MIRROR: 1, 0", "rows 100 000 000", "mirror(37) 1",
            "keeps(37) 0", "mirror(39) 0", "mirror(71) 1", "mirror(54) 1", "mirror(56) 0", "mirror(59) 1");
        holds(18, "BAD: it is of another TURN", "patch(3, 3) 9", "mirror(0) BAD", "mirror(8) BAD", "mirror(9) BAD",
            "mirror(26) BAD", "mirror(35) BAD", "mirror(36) 1", "patch(1, 1) 1",
            "mirror(*) BAD BAD BAD BAD 1 1 1 1 UNKNOWN");
        holds(18, "UNKNOWN; BAD", "patch(3, 3) 9", "mirror(72) UNKNOWN", "mirror(-1) UNKNOWN",
            "mirror(LOWEST) UNKNOWN", "mirror(HIGHEST) UNKNOWN", "patch(3, 2) 6", "mirror(5) BAD",
            "mirror(6) UNKNOWN", "mirror(11) UNKNOWN", "mirror(12) BAD", "mirror(17) BAD", "mirror(18) UNKNOWN",
            "mirror(23) UNKNOWN", "mirror(24) 1", "mirror(35) 0", "mirror(36) UNKNOWN", "mirror(47) UNKNOWN");
    }

    private static void kindsOfEmptyAndFull() {
        List<String> oneColour = new ArrayList<>();
        List<String> oneHidden = new ArrayList<>();
        for (int w = 1; w <= 6; w++) {
            for (int h = 1; h <= 6; h++) {
                String kind = "kind() " + (w == h ? 10 : 5);
                oneColour.add(call("patch", w, h) + " " + w * h);
                oneColour.add(kind);
                oneHidden.add(call("patch", w, h) + " " + w * h);
                oneHidden.add(call("dye", w * h - 1, 9) + " 0");
                oneHidden.add(kind);
            }
        }
        holds(19, "THE KIND: 0 .. 11", oneColour);
        holds(19, "THE KIND: 0 .. 11", oneHidden);
        holds(19, "THE KIND of THE PATCH", "rows 9", "kind() 10", "rows 99 99", "kind() 10", "rows 999 999",
            "kind() 5");
    }

    private static void kindsWithoutMirrorTurns() {
        holds(19, "0 by no TURN", "colours(3) 2", "rows 000 001 022", "kept(*) 1 0 0 0 0 0 0 0 1", "kind() 0",
            "rows 9000 0100 0010", "kept(8) 1", "kind() 0", "rows 011 222 012", "kept(8) 1", "kind() 0");
        holds(19, "1 if TURN 2 does (some MOVE of it) and not 1", "colours(3) 2", "rows 101 110 200",
            "kept(*) 1 0 1 0 0 0 0 0 2", "kind() 1", "rows 000 012 102", "kept(*) 1 0 1 0 0 0 0 0 2", "kind() 1");
        holds(19, "9 if TURN 1 does", "colours(3) 2", "rows 2102 0001 1000 2012", "kept(*) 1 1 1 1 0 0 0 0 4",
            "kind() 9", "rows 0001 0010 1011 0111", "kind() 9");
    }

    private static void kindsWithQuarter() {
        holds(19, "With TURN 1: 10 if all four are MIRRORED", "rows 00 01", "kept(*) 1 1 1 1 1 1 1 1 8", "kind() 10",
            "rows 01 10", "kept(*) 2 2 2 2 2 2 2 2 16", "kind() 10", "rows 0110 1001 1001 0110", "kind() 10");
        holds(19, "else 11", "rows 1011 1110 1101 0111", "kept(*) 1 1 1 1 1 1 1 1 8", "mirrored(4) 0",
            "mirrored(5) 0", "mirrored(6) 1", "mirrored(7) 1", "kind() 11", "rows 0001 0010 1000 0100", "kind() 11");
    }

    private static void kindsWithHalf() {
        holds(19, "5 if both are MIRRORED and all that KEEP it of them are MIRRORS behind a SHIFT that KEEPS it",
            "rows 01", "kind() 5", "rows 0 1", "kind() 5", "rows 0101", "kept(*) 2 0 2 0 2 2 0 0 8", "kind() 5",
            "rows 0 1 0 1", "kind() 5", "rows 100 010 001", "kept(*) 3 0 3 0 0 0 3 3 12", "kind() 5",
            "rows 1100 0011 0010 0100", "kept(*) 1 0 1 0 0 0 1 1 4", "kind() 5");
        holds(19, "8 if both are MIRRORED otherwise", "rows 0101 1010", "kept(*) 4 0 4 0 4 4 0 0 16", "mirrored(4) 1",
            "mirrored(5) 1", "kind() 8", "rows 00 01 00 10", "kind() 8",
            "rows 101101 110110 011011 101101 110110 011011", "kept(*) 12 0 12 0 0 0 12 12 48", "mirrored(6) 1",
            "mirrored(7) 1", "kind() 8");
        holds(19, "6 if just one is MIRRORED", "colours(3) 2", "rows 10 22 01", "mirrored(4) 1", "mirrored(5) 0",
            "kept(5) 1", "kind() 6", "rows 011 110", "mirrored(4) 0", "mirrored(5) 1", "kept(4) 1", "kind() 6",
            "rows 1100 1001 0011 0110", "mirrored(6) 1", "mirrored(7) 0", "kept(7) 4", "kind() 6",
            "rows 0011 1001 1100 0110", "mirrored(6) 0", "mirrored(7) 1", "kept(6) 4", "kind() 6");
        holds(19, "7 if none is", "colours(3) 2", "rows 2012 1220 2102 0221", "kept(*) 1 0 1 0 1 1 0 0 4",
            "mirrored(4) 0", "mirrored(5) 0", "kind() 7", "rows 010100 010011 101100 100010 011010 100101",
            "kept(*) 2 0 2 0 0 0 2 2 8", "mirrored(6) 0", "mirrored(7) 0", "kind() 7");
    }

    private static void kindsWithNeither() {
        holds(19, "2 if it is MIRRORED and all that KEEP it of it are MIRRORS behind a SHIFT that KEEPS it",
            "colours(3) 2", "rows 1 2 0", "kept(*) 1 0 0 0 1 0 0 0 2", "kind() 2", "rows 012",
            "kept(*) 1 0 0 0 0 1 0 0 2", "kind() 2", "rows 010 201 202", "kept(*) 1 0 0 0 0 0 1 0 2", "kind() 2",
            "rows 122 112 111", "kept(*) 1 0 0 0 0 0 0 1 2", "kind() 2");
        holds(19, "and then a SHIFT along its axis that KEEPS THE PATCH", "colours(3) 2", "rows 012012",
            "keeps(33) 1", "mirror(33) 0", "kind() 2", "rows 0 1 2 0 1 2", "keeps(27) 1", "mirror(27) 0", "kind() 2",
            "rows 2201 2012 0122 1220", "kept(*) 4 0 0 0 0 0 4 0 8", "kind() 2");
        holds(19, "of 6 by a and a, of 7 by a and - a", "rows 110100 100111 001101 111001 010011 011110",
            "kept(*) 3 0 0 0 0 0 3 0 6", "keeps(230) 1", "mirror(230) 0", "kind() 2",
            "rows 100001 110100 000110 010011 011000 001101", "kept(*) 3 0 0 0 0 0 0 3 6", "keeps(268) 1",
            "mirror(268) 0", "kind() 2", "rows 001 010 100", "kept(*) 3 0 3 0 0 0 3 3 12", "kind() 5");
        holds(19, "4 if it is MIRRORED otherwise", "colours(3) 2", "rows 02 21 20 12", "kept(*) 2 0 0 0 2 0 0 0 4",
            "mirrored(4) 1", "kind() 4", "rows 1002 0210", "kept(*) 2 0 0 0 0 2 0 0 4", "mirrored(5) 1", "kind() 4",
            "rows 110110 100100 011011 110110 100100 011011", "kept(*) 4 0 0 0 0 0 4 0 8", "mirrored(6) 1",
            "kind() 4", "rows 012012 201201 120120 012012 201201 120120", "kept(*) 12 0 0 0 0 0 0 12 24",
            "mirrored(7) 1", "kind() 4");
        holds(19, "3 if it is not", "colours(3) 2", "rows 110 100 011 001", "kept(*) 1 0 0 0 1 0 0 0 2",
            "mirrored(4) 0", "kind() 3", "rows 1221 2112 1010", "kept(*) 1 0 0 0 0 1 0 0 2", "mirrored(5) 0",
            "kind() 3", "rows 001101 111111 101111 101001 111111 111101", "mirrored(6) 0", "kind() 3",
            "rows 010011 000001 001111 011010 001000 111001", "mirrored(7) 0", "kind() 3");
    }
}
