import java.util.ArrayList;
import java.util.List;

/** Boundary cases of promises 20 to 24: how many paints there are, their numbers, hidden cells. */
public final class PaintEdgesTest extends Sentences {
    public static void main(String[] args) {
        paints();
        paint();
        paintsAreUnlike();
        keepsBy();
        by();
        swaps();
        end(20, 24);
    }

    private static void paints() {
        holds(20, "24 of them at most", "paints() 2", "colours(1) 2", "paints() 1", "colours(3) 1", "paints() 6",
            "colours(4) 3", "paints() 24", "colours(5) BAD", "paints() 24", "colours(2) 4", "paints() 2");
    }

    private static void paint() {
        holds(21, "numbered as rows in order (0: all as they are)", "paint(0, *) 0 1", "paint(1, *) 1 0",
            "colours(1) 2", "paint(0, *) 0", "colours(3) 1", "paint(0, *) 0 1 2", "paint(1, *) 0 2 1",
            "paint(2, *) 1 0 2", "paint(3, *) 1 2 0", "paint(4, *) 2 0 1", "paint(5, *) 2 1 0", "colours(4) 3",
            "paint(0, *) 0 1 2 3", "paint(1, *) 0 1 3 2", "paint(5, *) 0 3 2 1", "paint(6, *) 1 0 2 3",
            "paint(22, *) 3 2 0 1", "paint(23, *) 3 2 1 0");
        holds(21, "UNKNOWN: paint", "paint(1, 0) 1", "paint(2, 0) UNKNOWN", "paint(-1, 0) UNKNOWN",
            "paint(LOWEST, 0) UNKNOWN", "paint(HIGHEST, 0) UNKNOWN", "colours(1) 2", "paint(0, 0) 0",
            "paint(1, 0) UNKNOWN", "colours(3) 1", "paint(5, 0) 2", "paint(6, 0) UNKNOWN", "colours(4) 3",
            "paint(23, 0) 3", "paint(24, 0) UNKNOWN");
        holds(21, "BAD: colour", "paint(1, *) 1 0 BAD BAD BAD BAD BAD BAD BAD BAD BAD", "paint(1, -1) BAD",
            "paint(1, LOWEST) BAD", "paint(1, HIGHEST) BAD", "colours(1) 2", "paint(0, *) 0 BAD", "colours(4) 1",
            "paint(23, *) 3 2 1 0 BAD BAD BAD BAD BAD BAD", "paint(0, -1) BAD");
        holds(21, "Of several what is told first", "paint(2, 2) UNKNOWN", "paint(-1, -1) UNKNOWN",
            "paint(24, 9) UNKNOWN", "paint(HIGHEST, LOWEST) UNKNOWN");
    }

    private static void paintsAreUnlike() {
        String[] all = {
            "0123", "0132", "0213", "0231", "0312", "0321",
            "1023", "1032", "1203", "1230", "1302", "1320",
            "2013", "2031", "2103", "2130", "2301", "2310",
            "3012", "3021", "3102", "3120", "3201", "3210",
        };
        List<String> rows = new ArrayList<>(List.of("colours(4) 2"));
        for (int paint = 0; paint < all.length; paint++) {
            rows.add("paint(" + paint + ", *) " + String.join(" ", all[paint].split("")));
        }
        holds(21, "gives each COLOUR another one, no two the same", rows);
    }

    private static void keepsBy() {
        holds(22, "each CELL leads to one that has the COLOUR that PAINT gives it", "rows 01", "keepsBy(0, 0) 1",
            "keepsBy(0, 1) 0", "keepsBy(1, 0) 0", "keepsBy(1, 1) 1", "rows 00", "keepsBy(1, 0) 1", "keepsBy(1, 1) 0",
            "colours(4) 2", "rows 0123", "keepsBy(1, 9) 1", "keepsBy(1, 18) 0", "keepsBy(3, 18) 1", "keepsBy(3, 9) 0",
            "keepsBy(19, 23) 1", "keepsBy(19, 22) 0", "rows 11", "keepsBy(1, 0) 1", "keepsBy(1, 21) 1",
            "keepsBy(1, 2) 0");
        holds(22, "a HIDDEN one to a HIDDEN one", "rows 09", "keepsBy(0, 0) 1", "keepsBy(0, 1) 0", "keepsBy(1, 0) 0",
            "keepsBy(1, 1) 0", "rows 99", "keepsBy(1, 0) 1", "keepsBy(1, 1) 1", "rows 0919", "keepsBy(2, 1) 1",
            "keepsBy(2, 0) 0", "keepsBy(1, 1) 0");
        holds(22, "UNKNOWN", "patch(2, 2) 4", "keepsBy(31, 0) 1", "keepsBy(32, 0) UNKNOWN", "keepsBy(31, 1) 0",
            "keepsBy(31, 2) UNKNOWN", "keepsBy(-1, 0) UNKNOWN", "keepsBy(0, -1) UNKNOWN", "keepsBy(32, 2) UNKNOWN",
            "keepsBy(LOWEST, 0) UNKNOWN", "keepsBy(0, HIGHEST) UNKNOWN", "keepsBy(HIGHEST, LOWEST) UNKNOWN",
            "colours(1) 2", "keepsBy(0, 0) 1", "keepsBy(0, 1) UNKNOWN", "colours(4) 1", "keepsBy(0, 23) 0",
            "keepsBy(0, 24) UNKNOWN", "patch(2, 1) 2", "keepsBy(2, 0) UNKNOWN", "keepsBy(11, 0) 1",
            "keepsBy(12, 0) UNKNOWN");
    }

    private static void by() {
        holds(23, "The least PAINT by which a MOVE KEEPS it", "by(127) 0", "colours(4) 2", "rows 11", "by(1) 0",
            "rows 2323", "by(1) 1", "rows 1212", "by(1) 2", "rows 1313", "by(1) 5", "rows 0101", "by(1) 6",
            "rows 0303", "by(1) 21", "rows 0123", "by(0) 0", "by(1) 9", "by(2) 16", "by(3) 18", "by(16) 5",
            "by(19) 23");
        holds(23, "NONE", "rows 001", "by(0) 0", "by(1) NONE", "rows 09", "by(0) 0", "by(1) NONE", "rows 99",
            "by(1) 0", "rows 19", "by(1) NONE", "rows 9011", "by(1) NONE");
        holds(23, "UNKNOWN", "patch(2, 2) 4", "by(31) 0", "by(32) UNKNOWN", "by(-1) UNKNOWN", "by(LOWEST) UNKNOWN",
            "by(HIGHEST) UNKNOWN", "rows 001", "by(1) NONE", "by(3) UNKNOWN", "by(15) 0", "by(17) NONE",
            "by(18) UNKNOWN");
    }

    private static void swaps() {
        List<String> rows = new ArrayList<>();
        for (int w = 1; w <= 6; w++) {
            for (int h = 1; h <= 6; h++) {
                rows.add(call("patch", w, h) + " " + w * h);
                rows.add("swaps() " + (w == h ? 8 : 4) * w * h);
            }
        }
        holds(24, "How many MOVES KEEP it by some PAINT", rows);
        holds(24, "How many MOVES KEEP it by some PAINT", "colours(4) 2", "rows 0123", "kept(8) 2", "swaps() 16",
            "rows 000 001 022", "swaps() 1", "rows 9", "swaps() 8", "rows 09", "swaps() 4", "rows 99", "swaps() 8",
            "rows 0919", "swaps() 8", "rows 01 10", "swaps() 32", "kept(8) 16");
    }
}
