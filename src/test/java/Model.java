import java.util.ArrayDeque;
import java.util.ArrayList;
import java.util.Arrays;
import java.util.HashSet;
import java.util.List;
import java.util.Set;
import java.util.TreeSet;

/**
 * The document's words done as plainly and as slowly as can be, to hold the class against. It
 * shares no code with the class: moves are tables, groups are closed pair by pair, small counts
 * are made by looking at every paper, and pieces are walked on the paper that goes on and on.
 */
final class Model {
    static final int UNKNOWN = -1, BAD = -2, LATE = -3, FULL = -4, NONE = -9, HIDDEN = 9;

    /** Rows of a turn: x by x, x by y, y by x, y by y. */
    private static final int[][] TURN = {
        {1, 0, 0, 1}, {0, -1, 1, 0}, {-1, 0, 0, -1}, {0, 1, -1, 0},
        {-1, 0, 0, 1}, {1, 0, 0, -1}, {0, 1, 1, 0}, {0, -1, -1, 0},
    };

    int w = 4;
    int h = 4;
    int k = 2;
    int[] hue = new int[16];
    final List<Integer> told = new ArrayList<>();

    int cells() {
        return w * h;
    }

    boolean isCell(int cell) {
        return cell >= 0 && cell < cells();
    }

    boolean isMove(int move) {
        return allMoves().contains(move);
    }

    List<Integer> allMoves() {
        List<Integer> all = new ArrayList<>();
        for (int turn = 0; turn < 8; turn++) {
            if (w == h || TURN[turn][0] != 0) {
                for (int cell = 0; cell < cells(); cell++) {
                    all.add(w * h * turn + cell);
                }
            }
        }
        return all;
    }

    boolean isDye(int colour) {
        return colour == HIDDEN || colour >= 0 && colour < k;
    }

    // ---- the patch

    int patch(int width, int height) {
        if (width < 1 || width > 6 || height < 1 || height > 6) {
            return BAD;
        }
        w = width;
        h = height;
        hue = new int[w * h];
        told.clear();
        return w * h;
    }

    int colours(int number) {
        if (number < 1 || number > 4) {
            return BAD;
        }
        int before = k;
        k = number;
        for (int cell = 0; cell < cells(); cell++) {
            if (hue[cell] != HIDDEN && hue[cell] >= k) {
                hue[cell] = 0;
            }
        }
        return before;
    }

    int dye(int cell, int colour) {
        if (!isCell(cell)) {
            return UNKNOWN;
        }
        if (!isDye(colour)) {
            return BAD;
        }
        int before = hue[cell];
        hue[cell] = colour;
        return before;
    }

    int dyes(int cell, int m, int n) {
        if (!isCell(cell) || (long) cell + m > cells()) {
            return UNKNOWN;
        }
        if (m < 1 || m > 9 || n < 0) {
            return BAD;
        }
        StringBuilder figures = new StringBuilder(Integer.toString(n));
        while (figures.length() < m) {
            figures.insert(0, '0');
        }
        if (figures.length() > m) {
            return BAD;
        }
        for (int i = 0; i < m; i++) {
            if (!isDye(figures.charAt(i) - '0')) {
                return BAD;
            }
        }
        int otherwise = 0;
        for (int i = 0; i < m; i++) {
            int colour = figures.charAt(i) - '0';
            if (hue[cell + i] != colour) {
                otherwise++;
            }
            hue[cell + i] = colour;
        }
        return otherwise;
    }

    int at(int cell) {
        return isCell(cell) ? hue[cell] : UNKNOWN;
    }

    // ---- moves

    int moves() {
        return allMoves().size();
    }

    int turn(int move) {
        return move / cells();
    }

    int shiftX(int move) {
        return move % cells() % w;
    }

    int shiftY(int move) {
        return move % cells() / w;
    }

    int cell(int x, int y) {
        return Math.floorMod(y, h) * w + Math.floorMod(x, w);
    }

    int to(int move, int from) {
        int[] t = TURN[turn(move)];
        int x = from % w;
        int y = from / w;
        return cell(t[0] * x + t[1] * y + shiftX(move), t[2] * x + t[3] * y + shiftY(move));
    }

    int lead(int move, int from) {
        return isMove(move) && isCell(from) ? to(move, from) : UNKNOWN;
    }

    int joined(int move, int next) {
        int[] a = TURN[turn(move)];
        int[] b = TURN[turn(next)];
        int[] product = {
            b[0] * a[0] + b[1] * a[2], b[0] * a[1] + b[1] * a[3],
            b[2] * a[0] + b[3] * a[2], b[2] * a[1] + b[3] * a[3],
        };
        int x = b[0] * shiftX(move) + b[1] * shiftY(move) + shiftX(next);
        int y = b[2] * shiftX(move) + b[3] * shiftY(move) + shiftY(next);
        for (int turn = 0; turn < 8; turn++) {
            if (Arrays.equals(TURN[turn], product)) {
                return turn * cells() + cell(x, y);
            }
        }
        throw new IllegalStateException("two turns make a turn");
    }

    int behind(int move, int next) {
        return isMove(move) && isMove(next) ? joined(move, next) : UNKNOWN;
    }

    int back(int move) {
        if (!isMove(move)) {
            return UNKNOWN;
        }
        for (int other : allMoves()) {
            if (joined(move, other) == 0) {
                return other;
            }
        }
        throw new IllegalStateException("a move has one that undoes it");
    }

    int order(int move) {
        if (!isMove(move)) {
            return UNKNOWN;
        }
        int[] place = new int[cells()];
        int[] start = new int[cells()];
        for (int i = 0; i < cells(); i++) {
            place[i] = i;
            start[i] = i;
        }
        int times = 0;
        do {
            for (int i = 0; i < cells(); i++) {
                place[i] = to(move, place[i]);
            }
            times++;
        } while (!Arrays.equals(place, start));
        return times;
    }

    boolean holds(int move) {
        return Arrays.equals(moved(hue, move), hue);
    }

    int keeps(int move) {
        return isMove(move) ? (holds(move) ? 1 : 0) : UNKNOWN;
    }

    List<Integer> keepers(int turn) {
        List<Integer> found = new ArrayList<>();
        for (int move : allMoves()) {
            if ((turn == 8 || turn(move) == turn) && holds(move)) {
                found.add(move);
            }
        }
        return found;
    }

    int kept(int turn) {
        return turn < 0 || turn > 8 ? BAD : keepers(turn).size();
    }

    int keeper(int i) {
        List<Integer> all = keepers(8);
        return i < 0 || i >= all.size() ? NONE : all.get(i);
    }

    int[] moved(int[] hues, int move) {
        int[] after = new int[hues.length];
        for (int i = 0; i < hues.length; i++) {
            after[to(move, i)] = hues[i];
        }
        return after;
    }

    int go(int move) {
        if (!isMove(move)) {
            return UNKNOWN;
        }
        int[] after = moved(hue, move);
        int otherwise = 0;
        for (int i = 0; i < cells(); i++) {
            if (after[i] != hue[i]) {
                otherwise++;
            }
        }
        hue = after;
        return otherwise;
    }

    // ---- kinds

    int least() {
        return cells() / keepers(0).size();
    }

    /** A mirror done twice leaves the paper, in some print; a glide shifts it on. */
    boolean isMirror(int move) {
        int[] t = TURN[turn(move)];
        for (int i = -1; i <= 1; i++) {
            for (int j = -1; j <= 1; j++) {
                int x = shiftX(move) + i * w;
                int y = shiftY(move) + j * h;
                if (t[0] * x + t[1] * y + x == 0 && t[2] * x + t[3] * y + y == 0) {
                    return true;
                }
            }
        }
        return false;
    }

    int mirror(int move) {
        if (!isMove(move)) {
            return UNKNOWN;
        }
        return turn(move) < 4 ? BAD : isMirror(move) ? 1 : 0;
    }

    boolean hasMirror(int turn) {
        for (int move : keepers(turn)) {
            if (isMirror(move)) {
                return true;
            }
        }
        return false;
    }

    int mirrored(int turn) {
        return turn < 4 || turn > 7 ? BAD : hasMirror(turn) ? 1 : 0;
    }

    List<Integer> keptAlong(int turn) {
        Set<Integer> along = new TreeSet<>();
        for (int a = 0; a < Math.max(w, h); a++) {
            along.add(turn == 4 ? cell(0, a) : turn == 5 ? cell(a, 0) : turn == 6 ? cell(a, a) : cell(a, -a));
        }
        along.removeIf(shift -> !holds(shift));
        return new ArrayList<>(along);
    }

    boolean allBehindShifts() {
        for (int turn = 4; turn < 8; turn++) {
            Set<Integer> made = new HashSet<>();
            for (int move : allMoves()) {
                if (turn(move) == turn && isMirror(move)) {
                    for (int shift : keptAlong(turn)) {
                        made.add(joined(move, shift));
                    }
                }
            }
            if (!made.containsAll(keepers(turn))) {
                return false;
            }
        }
        return true;
    }

    int kind() {
        boolean quarter = !keepers(1).isEmpty();
        boolean half = !keepers(2).isEmpty();
        int fit = 0;
        int mirrored = 0;
        for (int turn = 4; turn < 8; turn++) {
            fit += keepers(turn).isEmpty() ? 0 : 1;
            mirrored += hasMirror(turn) ? 1 : 0;
        }
        if (fit == 0) {
            return quarter ? 9 : half ? 1 : 0;
        }
        if (fit != (quarter ? 4 : half ? 2 : 1)) {
            throw new IllegalStateException("the document tells how many turns fit");
        }
        if (quarter) {
            return mirrored == 4 ? 10 : 11;
        }
        if (half) {
            return mirrored == 2 ? (allBehindShifts() ? 5 : 8) : mirrored == 1 ? 6 : 7;
        }
        return mirrored == 0 ? 3 : allBehindShifts() ? 2 : 4;
    }

    // ---- paints

    List<int[]> allPaints() {
        List<int[]> rows = new ArrayList<>();
        int[] row = new int[k];
        int all = 1;
        for (int i = 0; i < k; i++) {
            all *= k;
        }
        for (int number = 0; number < all; number++) {
            int rest = number;
            Set<Integer> seen = new HashSet<>();
            for (int i = k - 1; i >= 0; i--) {
                row[i] = rest % k;
                rest /= k;
                seen.add(row[i]);
            }
            if (seen.size() == k) {
                rows.add(row.clone());
            }
        }
        return rows;
    }

    int paints() {
        return allPaints().size();
    }

    int paint(int paint, int colour) {
        if (paint < 0 || paint >= paints()) {
            return UNKNOWN;
        }
        return colour < 0 || colour >= k ? BAD : allPaints().get(paint)[colour];
    }

    boolean holdsBy(int move, int[] paint) {
        for (int i = 0; i < cells(); i++) {
            int wanted = hue[i] == HIDDEN ? HIDDEN : paint[hue[i]];
            if (hue[to(move, i)] != wanted) {
                return false;
            }
        }
        return true;
    }

    int keepsBy(int move, int paint) {
        if (!isMove(move) || paint < 0 || paint >= paints()) {
            return UNKNOWN;
        }
        return holdsBy(move, allPaints().get(paint)) ? 1 : 0;
    }

    int by(int move) {
        if (!isMove(move)) {
            return UNKNOWN;
        }
        return leastPaint(move, allPaints());
    }

    int leastPaint(int move, List<int[]> rows) {
        for (int i = 0; i < rows.size(); i++) {
            if (holdsBy(move, rows.get(i))) {
                return i;
            }
        }
        return NONE;
    }

    int swaps() {
        List<int[]> rows = allPaints();
        int found = 0;
        for (int move : allMoves()) {
            found += leastPaint(move, rows) == NONE ? 0 : 1;
        }
        return found;
    }

    // ---- told moves

    int tell(int move) {
        if (!isMove(move)) {
            return UNKNOWN;
        }
        if (told.size() == 4) {
            return FULL;
        }
        told.add(move);
        return told.size();
    }

    int untell() {
        int before = told.size();
        told.clear();
        return before;
    }

    Set<Integer> group() {
        Set<Integer> made = new TreeSet<>(told);
        made.add(0);
        boolean grows = true;
        while (grows) {
            Set<Integer> more = new TreeSet<>(made);
            for (int move : made) {
                for (int next : told) {
                    more.add(joined(move, next));
                    more.add(joined(next, move));
                }
            }
            grows = more.size() > made.size();
            made = more;
        }
        return made;
    }

    int together() {
        return group().size();
    }

    int[] leastOfRing() {
        Set<Integer> made = group();
        int[] least = new int[cells()];
        for (int i = 0; i < cells(); i++) {
            least[i] = i;
            for (int move : made) {
                least[i] = Math.min(least[i], to(move, i));
            }
        }
        return least;
    }

    List<List<Integer>> allRings() {
        int[] least = leastOfRing();
        List<List<Integer>> rings = new ArrayList<>();
        for (int i = 0; i < cells(); i++) {
            List<Integer> ring = new ArrayList<>();
            for (int j = 0; j < cells(); j++) {
                if (least[j] == i) {
                    ring.add(j);
                }
            }
            if (!ring.isEmpty()) {
                rings.add(ring);
            }
        }
        return rings;
    }

    int rings() {
        return allRings().size();
    }

    int ring(int cell) {
        return isCell(cell) ? leastOfRing()[cell] : UNKNOWN;
    }

    int[] seen(List<Integer> ring) {
        int[] seen = new int[10];
        for (int cell : ring) {
            seen[hue[cell]]++;
        }
        return seen;
    }

    int mend(boolean now) {
        int painted = 0;
        for (List<Integer> ring : allRings()) {
            int[] seen = seen(ring);
            if (seen[HIDDEN] == ring.size()) {
                continue;
            }
            int best = 0;
            for (int colour = 1; colour < 4; colour++) {
                best = seen[colour] > seen[best] ? colour : best;
            }
            painted += ring.size() - seen[best];
            for (int cell : ring) {
                hue[cell] = now ? best : hue[cell];
            }
        }
        return painted;
    }

    int sure(int cell) {
        if (!isCell(cell)) {
            return UNKNOWN;
        }
        if (hue[cell] != HIDDEN) {
            return LATE;
        }
        int[] least = leastOfRing();
        Set<Integer> others = new HashSet<>();
        for (int i = 0; i < cells(); i++) {
            if (least[i] == least[cell] && hue[i] != HIDDEN) {
                others.add(hue[i]);
            }
        }
        return others.size() == 1 ? others.iterator().next() : NONE;
    }

    int torn() {
        int torn = 0;
        for (List<Integer> ring : allRings()) {
            int[] seen = seen(ring);
            int several = 0;
            for (int colour = 0; colour < 4; colour++) {
                several += seen[colour] > 0 ? 1 : 0;
            }
            torn += several > 1 ? 1 : 0;
        }
        return torn;
    }

    /** How many papers there are in all, or -1 if they are too many to look at each. */
    private int fewPapers() {
        double all = Math.pow(k, cells());
        return all > 5000 ? -1 : (int) Math.round(all);
    }

    private int[] paperOf(int number) {
        int[] paper = new int[cells()];
        int rest = number;
        for (int i = 0; i < cells(); i++) {
            paper[i] = rest % k;
            rest /= k;
        }
        return paper;
    }

    long papers() {
        if (cells() > 25) {
            return LATE;
        }
        int all = fewPapers();
        if (all < 0) {
            return Math.round(Math.pow(k, rings()));
        }
        long found = 0;
        for (int number = 0; number < all; number++) {
            int[] paper = paperOf(number);
            boolean kept = true;
            for (int move : told) {
                kept &= Arrays.equals(moved(paper, move), paper);
            }
            found += kept ? 1 : 0;
        }
        return found;
    }

    long upTo() {
        if (cells() > 25) {
            return LATE;
        }
        int all = fewPapers();
        if (all < 0) {
            return upToByKept();
        }
        List<Integer> moves = allMoves();
        Set<String> met = new HashSet<>();
        long found = 0;
        for (int number = 0; number < all; number++) {
            int[] paper = paperOf(number);
            if (!met.contains(Arrays.toString(paper))) {
                found++;
                for (int move : moves) {
                    met.add(Arrays.toString(moved(paper, move)));
                }
            }
        }
        return found;
    }

    private long upToByKept() {
        java.math.BigInteger sum = java.math.BigInteger.ZERO;
        List<Integer> moves = allMoves();
        Model alone = new Model();
        alone.patch(w, h);
        for (int move : moves) {
            alone.untell();
            alone.tell(move);
            sum = sum.add(java.math.BigInteger.valueOf(k).pow(alone.rings()));
        }
        java.math.BigInteger[] parts = sum.divideAndRemainder(java.math.BigInteger.valueOf(moves.size()));
        if (parts[1].signum() != 0) {
            throw new IllegalStateException("the sum is a multiple of the moves");
        }
        return parts[0].longValueExact();
    }

    // ---- like ones, pieces

    String figures(int[] hues) {
        StringBuilder text = new StringBuilder();
        for (int colour : hues) {
            text.append(colour);
        }
        return text.toString();
    }

    TreeSet<String> allLike() {
        TreeSet<String> all = new TreeSet<>();
        for (int move : allMoves()) {
            all.add(figures(moved(hue, move)));
        }
        return all;
    }

    int like() {
        return allLike().size();
    }

    int first(int cell) {
        return isCell(cell) ? allLike().first().charAt(cell) - '0' : UNKNOWN;
    }

    int toFirst() {
        String wanted = allLike().first();
        for (int move : allMoves()) {
            if (figures(moved(hue, move)).equals(wanted)) {
                return move;
            }
        }
        throw new IllegalStateException("some move makes the first");
    }

    /** Places of the paper reached from a cell; no way to another print need be longer than 36. */
    Set<Long> walked(int cell) {
        final int far = 36;
        Set<Long> reached = new HashSet<>();
        ArrayDeque<int[]> next = new ArrayDeque<>();
        next.add(new int[] {cell % w, cell / w, 0});
        reached.add(place(cell % w, cell / w));
        int[][] sides = {{1, 0}, {-1, 0}, {0, 1}, {0, -1}};
        while (!next.isEmpty()) {
            int[] here = next.remove();
            for (int[] side : sides) {
                int x = here[0] + side[0];
                int y = here[1] + side[1];
                if (here[2] < far && hue[cell(x, y)] == hue[cell] && reached.add(place(x, y))) {
                    next.add(new int[] {x, y, here[2] + 1});
                }
            }
        }
        return reached;
    }

    private static long place(int x, int y) {
        return (x + 1000L) * 10000L + y + 1000L;
    }

    private int cellOf(long place) {
        return cell((int) (place / 10000L - 1000L), (int) (place % 10000L - 1000L));
    }

    Set<Integer> pieceOf(Set<Long> reached) {
        Set<Integer> piece = new TreeSet<>();
        for (long place : reached) {
            piece.add(cellOf(place));
        }
        return piece;
    }

    int pieces(boolean runs) {
        Set<Set<Integer>> found = new HashSet<>();
        for (int i = 0; i < cells(); i++) {
            if (hue[i] != HIDDEN) {
                Set<Long> reached = walked(i);
                int again = 0;
                for (long place : reached) {
                    again += cellOf(place) == i ? 1 : 0;
                }
                if (!runs || again > 1) {
                    found.add(pieceOf(reached));
                }
            }
        }
        return found.size();
    }

    int piece(int cell) {
        if (!isCell(cell)) {
            return UNKNOWN;
        }
        return hue[cell] == HIDDEN ? LATE : pieceOf(walked(cell)).size();
    }

    int count(int what) {
        Set<Integer> used = new HashSet<>();
        int hidden = 0;
        for (int colour : hue) {
            if (colour == HIDDEN) {
                hidden++;
            } else {
                used.add(colour);
            }
        }
        int[] answers = {cells(), k, hidden, told.size(), used.size()};
        return what < 0 || what >= answers.length ? BAD : answers[what];
    }
}
