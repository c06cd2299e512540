/**
 * Papers that repeat: a patch of coloured cells printed on and on in both directions, the moves
 * that keep it, its kind, paints, told moves and papers counted by them, like ones and pieces.
 *
 * <p>The face tests its arguments and tells refusals; the classes inside work on what is known
 * to be there. All rows are made with the object, and no call makes another.
 */
public final class PaperRepeats {
    public static final int UNKNOWN = -1, BAD = -2, LATE = -3, FULL = -4, NONE = -9;

    private static final int MOST_SIDE = 6;
    private static final int MOST_CELLS = 36;
    private static final int MOST_COLOURS = 4;
    private static final int MOST_TOLD = 4;
    private static final int MOST_FIGURES = 9;
    private static final int MOST_COUNTED_CELLS = 25;
    private static final int TURNS = 8;
    private static final int QUARTER = 1;
    private static final int HALF = 2;
    private static final int FIRST_MIRROR_TURN = 4;
    private static final int MOST_MOVES = 288;
    private static final int HIDDEN = 9;

    private final Grid grid;
    private final Patch patch;
    private final Kinds kinds;
    private final Paints paints;
    private final Told told;
    private final Census census;
    private final Likes likes;
    private final Pieces pieces;

    public PaperRepeats() {
        grid = new Grid();
        patch = new Patch(grid);
        kinds = new Kinds(grid, patch);
        paints = new Paints(grid, patch);
        told = new Told(grid, patch);
        census = new Census(grid);
        likes = new Likes(grid, patch);
        pieces = new Pieces(grid, patch);
    }

    // ---- the patch

    public int patch(int w, int h) {
        if (w < 1 || w > MOST_SIDE || h < 1 || h > MOST_SIDE) {
            return BAD;
        }
        grid.resize(w, h);
        patch.clear();
        told.forget();
        return grid.cells;
    }

    public int colours(int k) {
        if (k < 1 || k > MOST_COLOURS) {
            return BAD;
        }
        int before = patch.hues;
        patch.allowHues(k);
        return before;
    }

    public int dye(int cell, int colour) {
        if (!grid.hasCell(cell)) {
            return UNKNOWN;
        }
        if (!patch.allows(colour)) {
            return BAD;
        }
        int before = patch.hueAt[cell];
        patch.hueAt[cell] = colour;
        return before;
    }

    public int dyes(int cell, int m, int n) {
        if (!grid.hasCell(cell) || m > grid.cells - cell) {
            return UNKNOWN;
        }
        if (m < 1 || m > MOST_FIGURES || !patch.allowsFigures(m, n)) {
            return BAD;
        }
        return patch.dyeFigures(cell, m, n);
    }

    public int at(int cell) {
        return grid.hasCell(cell) ? patch.hueAt[cell] : UNKNOWN;
    }

    // ---- moves

    public int moves() {
        return grid.moveCount();
    }

    public int lead(int move, int cell) {
        return grid.hasMove(move) && grid.hasCell(cell) ? grid.target(move, cell) : UNKNOWN;
    }

    public int behind(int move, int next) {
        return grid.hasMove(move) && grid.hasMove(next) ? grid.join(move, next) : UNKNOWN;
    }

    public int back(int move) {
        return grid.hasMove(move) ? grid.undoing(move) : UNKNOWN;
    }

    public int order(int move) {
        return grid.hasMove(move) ? grid.timesTillStill(move) : UNKNOWN;
    }

    public int keeps(int move) {
        return grid.hasMove(move) ? oneIf(patch.isKeptBy(move)) : UNKNOWN;
    }

    public int kept(int turn) {
        if (turn < 0 || turn > TURNS) {
            return BAD;
        }
        return turn == TURNS ? patch.keepersOfAll() : patch.keepersOf(turn);
    }

    public int keeper(int i) {
        return patch.keeperNumber(i);
    }

    public int go(int move) {
        return grid.hasMove(move) ? patch.moveBy(move) : UNKNOWN;
    }

    // ---- kinds

    public int least() {
        int shifts = patch.keepersOf(0);
        return shifts < 1 ? grid.cells : grid.cells / shifts;
    }

    public int mirrored(int turn) {
        if (turn < FIRST_MIRROR_TURN || turn >= TURNS) {
            return BAD;
        }
        return oneIf(kinds.hasMirror(turn));
    }

    public int mirror(int move) {
        if (!grid.hasMove(move)) {
            return UNKNOWN;
        }
        if (grid.turnOf(move) < FIRST_MIRROR_TURN) {
            return BAD;
        }
        return oneIf(kinds.isMirror(grid.turnOf(move), grid.shiftOf(move)));
    }

    public int kind() {
        return kinds.number();
    }

    // ---- paints

    public int paints() {
        return paints.total();
    }

    public int paint(int paint, int colour) {
        if (!paints.has(paint)) {
            return UNKNOWN;
        }
        return patch.isHue(colour) ? paints.given(paint, colour) : BAD;
    }

    public int keepsBy(int move, int paint) {
        if (!grid.hasMove(move) || !paints.has(paint)) {
            return UNKNOWN;
        }
        return oneIf(paints.isKeptBy(move, paint));
    }

    public int by(int move) {
        return grid.hasMove(move) ? paints.leastFor(move) : UNKNOWN;
    }

    public int swaps() {
        return paints.movesWithSome();
    }

    // ---- told moves

    public int tell(int move) {
        if (!grid.hasMove(move)) {
            return UNKNOWN;
        }
        if (told.size >= MOST_TOLD) {
            return FULL;
        }
        told.add(move);
        return told.size;
    }

    public int untell() {
        int before = told.size;
        told.forget();
        return before;
    }

    public int together() {
        return told.movesMade();
    }

    public int rings() {
        return told.ringCount();
    }

    public int ring(int cell) {
        return grid.hasCell(cell) ? told.ringOf[cell] : UNKNOWN;
    }

    public int mend(boolean now) {
        return told.paintRings(now);
    }

    public int sure(int cell) {
        if (!grid.hasCell(cell)) {
            return UNKNOWN;
        }
        if (patch.hueAt[cell] != HIDDEN) {
            return LATE;
        }
        return told.onlyHue(told.ringOf[cell]);
    }

    public int torn() {
        return told.tornCount();
    }

    public long papers() {
        if (grid.cells > MOST_COUNTED_CELLS) {
            return LATE;
        }
        return Census.power(patch.hues, told.ringCount());
    }

    public long upTo() {
        if (grid.cells > MOST_COUNTED_CELLS) {
            return LATE;
        }
        return census.unlike(patch.hues);
    }

    // ---- like ones, pieces

    public int like() {
        return likes.total();
    }

    public int first(int cell) {
        return grid.hasCell(cell) ? likes.hueInFirst(cell) : UNKNOWN;
    }

    public int toFirst() {
        return likes.moveToFirst();
    }

    public int pieces(boolean runs) {
        return pieces.total(runs);
    }

    public int piece(int cell) {
        if (!grid.hasCell(cell)) {
            return UNKNOWN;
        }
        if (patch.hueAt[cell] == HIDDEN) {
            return LATE;
        }
        return pieces.sizeAt(cell);
    }

    public int count(int what) {
        switch (what) {
            case 0:
                return grid.cells;
            case 1:
                return patch.hues;
            case 2:
                return patch.hiddenCount();
            case 3:
                return told.size;
            case 4:
                return patch.usedHues();
            default:
                return BAD;
        }
    }

    private static int oneIf(boolean holds) {
        return holds ? 1 : 0;
    }

    /** The size of the patch, and its moves as numbers: cells * turn + the cell to shift by. */
    private static final class Grid {
        private int width;
        private int height;
        private int cells;

        Grid() {
            width = 4;
            height = 4;
            cells = 16;
        }

        void resize(int w, int h) {
            width = w;
            height = h;
            cells = w * h;
        }

        boolean hasCell(int cell) {
            return cell >= 0 && cell < cells;
        }

        boolean hasTurn(int turn) {
            return width == height || turn == 0 || turn == 2 || turn == 4 || turn == 5;
        }

        boolean hasMove(int move) {
            return move >= 0 && move < numbers() && hasTurn(turnOf(move));
        }

        /** The bound of the moves' numbers; those of turns that are not there are passed over. */
        int numbers() {
            return TURNS * cells;
        }

        int moveCount() {
            return width == height ? TURNS * cells : TURNS / 2 * cells;
        }

        int turnOf(int move) {
            return cells < 1 ? 0 : move / cells;
        }

        int shiftOf(int move) {
            return cells < 1 ? 0 : move % cells;
        }

        int columnOf(int cell) {
            return width < 1 ? 0 : cell % width;
        }

        int rowOf(int cell) {
            return width < 1 ? 0 : cell / width;
        }

        /** The cell at a place of any print. */
        int cellAt(int x, int y) {
            if (width < 1 || height < 1) {
                return 0;
            }
            int column = x % width;
            int row = y % height;
            return (row < 0 ? row + height : row) * width + (column < 0 ? column + width : column);
        }

        static int turnedX(int turn, int x, int y) {
            switch (turn) {
                case 1:
                case 7:
                    return -y;
                case 2:
                case 4:
                    return -x;
                case 3:
                case 6:
                    return y;
                default:
                    return x;
            }
        }

        static int turnedY(int turn, int x, int y) {
            switch (turn) {
                case 1:
                case 6:
                    return x;
                case 2:
                case 5:
                    return -y;
                case 3:
                case 7:
                    return -x;
                default:
                    return y;
            }
        }

        int target(int move, int cell) {
            int turn = turnOf(move);
            int shift = shiftOf(move);
            int x = columnOf(cell);
            int y = rowOf(cell);
            return cellAt(turnedX(turn, x, y) + columnOf(shift), turnedY(turn, x, y) + rowOf(shift));
        }

        /** What the first move shifts by is moved by the next one as any cell is. */
        int join(int move, int next) {
            return joinTurns(turnOf(move), turnOf(next)) * cells + target(next, shiftOf(move));
        }

        /** No two turns lead the point 1, 2 to the same point: it tells which turn two make. */
        static int joinTurns(int turn, int next) {
            int x = turnedX(turn, 1, 2);
            int y = turnedY(turn, 1, 2);
            int endX = turnedX(next, x, y);
            int endY = turnedY(next, x, y);
            for (int made = 0; made < TURNS; made++) {
                if (turnedX(made, 1, 2) == endX && turnedY(made, 1, 2) == endY) {
                    return made;
                }
            }
            return 0;
        }

        int undoing(int move) {
            int turn = undoingTurn(turnOf(move));
            int x = columnOf(shiftOf(move));
            int y = rowOf(shiftOf(move));
            return turn * cells + cellAt(-turnedX(turn, x, y), -turnedY(turn, x, y));
        }

        static int undoingTurn(int turn) {
            switch (turn) {
                case 1:
                    return 3;
                case 3:
                    return 1;
                default:
                    return turn;
            }
        }

        /** Moves of two numbers may lead all cells alike, so the cells are looked at. */
        boolean isStill(int move) {
            for (int cell = 0; cell < cells; cell++) {
                if (target(move, cell) != cell) {
                    return false;
                }
            }
            return true;
        }

        int timesTillStill(int move) {
            int reached = move;
            for (int times = 1; times < MOST_MOVES; times++) {
                if (isStill(reached)) {
                    return times;
                }
                reached = join(reached, move);
            }
            return MOST_MOVES;
        }
    }

    /** The colours of the cells, and the moves that keep them. */
    private static final class Patch {
        private final Grid grid;
        private final int[] hueAt = new int[MOST_CELLS];
        private final int[] before = new int[MOST_CELLS];
        private int hues = 2;

        Patch(Grid grid) {
            this.grid = grid;
        }

        void clear() {
            for (int cell = 0; cell < MOST_CELLS; cell++) {
                hueAt[cell] = 0;
            }
        }

        boolean isHue(int colour) {
            return colour >= 0 && colour < hues;
        }

        boolean allows(int colour) {
            return isHue(colour) || colour == HIDDEN;
        }

        void allowHues(int k) {
            hues = k;
            for (int cell = 0; cell < grid.cells; cell++) {
                if (!allows(hueAt[cell])) {
                    hueAt[cell] = 0;
                }
            }
        }

        boolean allowsFigures(int m, int n) {
            if (n < 0) {
                return false;
            }
            int rest = n;
            for (int i = 0; i < m; i++) {
                if (!allows(rest % 10)) {
                    return false;
                }
                rest /= 10;
            }
            return rest == 0;
        }

        int dyeFigures(int cell, int m, int n) {
            int changed = 0;
            int rest = n;
            for (int i = cell + m - 1; i >= cell; i--) {
                if (hueAt[i] != rest % 10) {
                    changed++;
                }
                hueAt[i] = rest % 10;
                rest /= 10;
            }
            return changed;
        }

        int hiddenCount() {
            int hidden = 0;
            for (int cell = 0; cell < grid.cells; cell++) {
                if (hueAt[cell] == HIDDEN) {
                    hidden++;
                }
            }
            return hidden;
        }

        int usedHues() {
            int mask = 0;
            for (int cell = 0; cell < grid.cells; cell++) {
                if (hueAt[cell] != HIDDEN) {
                    mask |= 1 << hueAt[cell];
                }
            }
            return Integer.bitCount(mask);
        }

        boolean isKeptBy(int move) {
            for (int cell = 0; cell < grid.cells; cell++) {
                if (hueAt[grid.target(move, cell)] != hueAt[cell]) {
                    return false;
                }
            }
            return true;
        }

        int keepersOf(int turn) {
            if (!grid.hasTurn(turn)) {
                return 0;
            }
            int keepers = 0;
            int start = turn * grid.cells;
            for (int shift = 0; shift < grid.cells; shift++) {
                if (isKeptBy(start + shift)) {
                    keepers++;
                }
            }
            return keepers;
        }

        int keepersOfAll() {
            int keepers = 0;
            for (int turn = 0; turn < TURNS; turn++) {
                keepers += keepersOf(turn);
            }
            return keepers;
        }

        int keeperNumber(int i) {
            if (i < 0 || i >= grid.moveCount()) {
                return NONE;
            }
            int ahead = 0;
            for (int move = 0; move < grid.numbers(); move++) {
                if (grid.hasMove(move) && isKeptBy(move)) {
                    if (ahead == i) {
                        return move;
                    }
                    ahead++;
                }
            }
            return NONE;
        }

        int moveBy(int move) {
            for (int cell = 0; cell < grid.cells; cell++) {
                before[cell] = hueAt[cell];
            }
            for (int cell = 0; cell < grid.cells; cell++) {
                hueAt[grid.target(move, cell)] = before[cell];
            }
            int changed = 0;
            for (int cell = 0; cell < grid.cells; cell++) {
                if (hueAt[cell] != before[cell]) {
                    changed++;
                }
            }
            return changed;
        }
    }

    /** Mirrors, and which of the twelve kinds the patch is. */
    private static final class Kinds {
        private final Grid grid;
        private final Patch patch;

        Kinds(Grid grid, Patch patch) {
            this.grid = grid;
            this.patch = patch;
        }

        boolean isMirror(int turn, int shift) {
            int x = grid.columnOf(shift);
            int y = grid.rowOf(shift);
            switch (turn) {
                case 4:
                    return y == 0;
                case 5:
                    return x == 0;
                case 6:
                    return x + y == 0 || x + y == grid.width;
                case 7:
                    return x == y;
                default:
                    return false;
            }
        }

        /** Turns 4 and 5, 6 and 7 have axes across: along the one is what mirrors in the other. */
        boolean isAlong(int turn, int shift) {
            return isMirror(turn ^ 1, shift);
        }

        boolean hasMirror(int turn) {
            if (!grid.hasTurn(turn)) {
                return false;
            }
            for (int shift = 0; shift < grid.cells; shift++) {
                if (isMirror(turn, shift) && patch.isKeptBy(turn * grid.cells + shift)) {
                    return true;
                }
            }
            return false;
        }

        boolean isMirrorBehindShift(int turn, int shift) {
            int x = grid.columnOf(shift);
            int y = grid.rowOf(shift);
            for (int along = 0; along < grid.cells; along++) {
                int rest = grid.cellAt(x - grid.columnOf(along), y - grid.rowOf(along));
                if (isAlong(turn, along) && isMirror(turn, rest) && patch.isKeptBy(along)) {
                    return true;
                }
            }
            return false;
        }

        boolean allMirrorsBehindShifts() {
            for (int move = FIRST_MIRROR_TURN * grid.cells; move < grid.numbers(); move++) {
                if (grid.hasMove(move) && patch.isKeptBy(move)
                        && !isMirrorBehindShift(grid.turnOf(move), grid.shiftOf(move))) {
                    return false;
                }
            }
            return true;
        }

        int number() {
            boolean quarter = patch.keepersOf(QUARTER) > 0;
            boolean half = patch.keepersOf(HALF) > 0;
            if (fitCount() == 0) {
                return quarter ? 9 : half ? 1 : 0;
            }
            int mirrored = mirroredCount();
            if (quarter) {
                return mirrored == 4 ? 10 : 11;
            }
            boolean plain = mirrored > 0 && allMirrorsBehindShifts();
            return half ? kindWithHalf(mirrored, plain) : kindWithoutTurns(mirrored, plain);
        }

        static int kindWithHalf(int mirrored, boolean plain) {
            if (mirrored == 2) {
                return plain ? 5 : 8;
            }
            return mirrored == 1 ? 6 : 7;
        }

        static int kindWithoutTurns(int mirrored, boolean plain) {
            if (mirrored == 0) {
                return 3;
            }
            return plain ? 2 : 4;
        }

        int fitCount() {
            int fit = 0;
            for (int turn = FIRST_MIRROR_TURN; turn < TURNS; turn++) {
                if (patch.keepersOf(turn) > 0) {
                    fit++;
                }
            }
            return fit;
        }

        int mirroredCount() {
            int mirrored = 0;
            for (int turn = FIRST_MIRROR_TURN; turn < TURNS; turn++) {
                if (hasMirror(turn)) {
                    mirrored++;
                }
            }
            return mirrored;
        }
    }

    /** Colours changed with one another. */
    private static final class Paints {
        /** All rows of four colours in order. */
        private static final int[] ROWS = {
            0, 1, 2, 3, 0, 1, 3, 2, 0, 2, 1, 3, 0, 2, 3, 1, 0, 3, 1, 2, 0, 3, 2, 1,
            1, 0, 2, 3, 1, 0, 3, 2, 1, 2, 0, 3, 1, 2, 3, 0, 1, 3, 0, 2, 1, 3, 2, 0,
            2, 0, 1, 3, 2, 0, 3, 1, 2, 1, 0, 3, 2, 1, 3, 0, 2, 3, 0, 1, 2, 3, 1, 0,
            3, 0, 1, 2, 3, 0, 2, 1, 3, 1, 0, 2, 3, 1, 2, 0, 3, 2, 0, 1, 3, 2, 1, 0,
        };

        private final Grid grid;
        private final Patch patch;
        private final int[] asked = new int[MOST_COLOURS];

        Paints(Grid grid, Patch patch) {
            this.grid = grid;
            this.patch = patch;
        }

        int total() {
            int product = 1;
            for (int factor = 2; factor <= patch.hues; factor++) {
                product *= factor;
            }
            return product;
        }

        boolean has(int paint) {
            return paint >= 0 && paint < total();
        }

        /** With fewer colours the paints are the first rows, which leave the colours ahead. */
        int given(int paint, int colour) {
            int ahead = MOST_COLOURS - patch.hues;
            return ROWS[paint * MOST_COLOURS + ahead + colour] - ahead;
        }

        boolean isKeptBy(int move, int paint) {
            for (int cell = 0; cell < grid.cells; cell++) {
                int hue = patch.hueAt[cell];
                int wanted = hue == HIDDEN ? HIDDEN : given(paint, hue);
                if (patch.hueAt[grid.target(move, cell)] != wanted) {
                    return false;
                }
            }
            return true;
        }

        /** Notes what a paint must give each colour that is there; false if it can't be one. */
        boolean askFor(int move) {
            for (int hue = 0; hue < MOST_COLOURS; hue++) {
                asked[hue] = NONE;
            }
            for (int cell = 0; cell < grid.cells; cell++) {
                int hue = patch.hueAt[cell];
                int next = patch.hueAt[grid.target(move, cell)];
                if (hue == HIDDEN || next == HIDDEN) {
                    if (hue != next) {
                        return false;
                    }
                } else if (asked[hue] == NONE) {
                    asked[hue] = next;
                } else if (asked[hue] != next) {
                    return false;
                }
            }
            return true;
        }

        boolean givesWhatIsAsked(int paint) {
            for (int hue = 0; hue < patch.hues; hue++) {
                if (asked[hue] != NONE && asked[hue] != given(paint, hue)) {
                    return false;
                }
            }
            return true;
        }

        int leastFor(int move) {
            if (!askFor(move)) {
                return NONE;
            }
            int bound = total();
            for (int paint = 0; paint < bound; paint++) {
                if (givesWhatIsAsked(paint)) {
                    return paint;
                }
            }
            return NONE;
        }

        int movesWithSome() {
            int some = 0;
            for (int move = 0; move < grid.numbers(); move++) {
                if (grid.hasMove(move) && leastFor(move) != NONE) {
                    some++;
                }
            }
            return some;
        }
    }

    /** Told moves, the rings of cells that go with one another, and the colours of a ring. */
    private static final class Told {
        private final Grid grid;
        private final Patch patch;
        private final int[] moves = new int[MOST_TOLD];
        private final int[] ringOf = new int[MOST_CELLS];
        private final int[] line = new int[MOST_MOVES];
        private final boolean[] isMade = new boolean[MOST_MOVES];
        private int size;

        Told(Grid grid, Patch patch) {
            this.grid = grid;
            this.patch = patch;
            for (int cell = 0; cell < MOST_CELLS; cell++) {
                ringOf[cell] = cell;
            }
        }

        void forget() {
            size = 0;
            markRings();
        }

        void add(int move) {
            moves[size] = move;
            size++;
            markRings();
        }

        void markRings() {
            for (int cell = 0; cell < grid.cells; cell++) {
                ringOf[cell] = NONE;
            }
            for (int cell = 0; cell < grid.cells; cell++) {
                if (ringOf[cell] == NONE) {
                    markRing(cell);
                }
            }
        }

        /** A move done often enough undoes itself, so going on by told moves finds all. */
        void markRing(int least) {
            ringOf[least] = least;
            line[0] = least;
            int end = 1;
            for (int i = 0; i < end && i < MOST_CELLS; i++) {
                for (int j = 0; j < size; j++) {
                    int cell = grid.target(moves[j], line[i]);
                    if (ringOf[cell] == NONE) {
                        ringOf[cell] = least;
                        line[end] = cell;
                        end++;
                    }
                }
            }
        }

        int movesMade() {
            for (int move = 0; move < MOST_MOVES; move++) {
                isMade[move] = false;
            }
            isMade[0] = true;
            line[0] = 0;
            int end = 1;
            for (int i = 0; i < end && i < MOST_MOVES; i++) {
                for (int j = 0; j < size; j++) {
                    int move = grid.join(line[i], moves[j]);
                    if (!isMade[move]) {
                        isMade[move] = true;
                        line[end] = move;
                        end++;
                    }
                }
            }
            return end;
        }

        int ringCount() {
            int found = 0;
            for (int cell = 0; cell < grid.cells; cell++) {
                if (ringOf[cell] == cell) {
                    found++;
                }
            }
            return found;
        }

        int cellsOf(int ring, int hue) {
            int found = 0;
            for (int cell = 0; cell < grid.cells; cell++) {
                if (ringOf[cell] == ring && patch.hueAt[cell] == hue) {
                    found++;
                }
            }
            return found;
        }

        /** The colour that most cells of a ring have; HIDDEN if none has one. */
        int commonHue(int ring) {
            int best = HIDDEN;
            int most = 0;
            for (int hue = 0; hue < patch.hues; hue++) {
                int found = cellsOf(ring, hue);
                if (found > most) {
                    best = hue;
                    most = found;
                }
            }
            return best;
        }

        int hueCount(int ring) {
            int found = 0;
            for (int hue = 0; hue < patch.hues; hue++) {
                if (cellsOf(ring, hue) > 0) {
                    found++;
                }
            }
            return found;
        }

        int onlyHue(int ring) {
            return hueCount(ring) == 1 ? commonHue(ring) : NONE;
        }

        int tornCount() {
            int found = 0;
            for (int ring = 0; ring < grid.cells; ring++) {
                if (hueCount(ring) > 1) {
                    found++;
                }
            }
            return found;
        }

        int paintRings(boolean now) {
            int painted = 0;
            for (int ring = 0; ring < grid.cells; ring++) {
                if (ringOf[ring] == ring) {
                    painted += paintRing(ring, commonHue(ring), now);
                }
            }
            return painted;
        }

        int paintRing(int ring, int hue, boolean now) {
            int painted = 0;
            for (int cell = ring; cell < grid.cells; cell++) {
                if (ringOf[cell] == ring && patch.hueAt[cell] != hue) {
                    painted++;
                    if (now) {
                        patch.hueAt[cell] = hue;
                    }
                }
            }
            return painted;
        }
    }

    /** How many papers there are. */
    private static final class Census {
        private final Grid grid;
        private final boolean[] isPassed = new boolean[MOST_CELLS];

        Census(Grid grid) {
            this.grid = grid;
        }

        static long power(int base, int exponent) {
            long product = 1;
            for (int i = 0; i < exponent; i++) {
                product *= base;
            }
            return product;
        }

        /** Papers kept by a move, summed over all moves, count each unlike paper once a move. */
        long unlike(int hues) {
            long sum = 0;
            for (int move = 0; move < grid.numbers(); move++) {
                if (grid.hasMove(move)) {
                    sum += power(hues, roundsOf(move));
                }
            }
            int all = grid.moveCount();
            return all < 1 ? 0 : sum / all;
        }

        int roundsOf(int move) {
            for (int cell = 0; cell < grid.cells; cell++) {
                isPassed[cell] = false;
            }
            int rounds = 0;
            for (int cell = 0; cell < grid.cells; cell++) {
                if (!isPassed[cell]) {
                    rounds++;
                    passRound(move, cell);
                }
            }
            return rounds;
        }

        void passRound(int move, int start) {
            int cell = start;
            for (int i = 0; i < grid.cells && !isPassed[cell]; i++) {
                isPassed[cell] = true;
                cell = grid.target(move, cell);
            }
        }
    }

    /** All that moves make of the patch, and the first of them. */
    private static final class Likes {
        private final Grid grid;
        private final Patch patch;

        Likes(Grid grid, Patch patch) {
            this.grid = grid;
            this.patch = patch;
        }

        /** Each of the like ones is made by as many moves as keep the patch. */
        int total() {
            int keepers = patch.keepersOfAll();
            return keepers < 1 ? 1 : grid.moveCount() / keepers;
        }

        int hueInFirst(int cell) {
            return patch.hueAt[grid.target(grid.undoing(moveToFirst()), cell)];
        }

        int moveToFirst() {
            int best = 0;
            for (int move = 1; move < grid.numbers(); move++) {
                if (grid.hasMove(move) && isAhead(move, best)) {
                    best = move;
                }
            }
            return best;
        }

        /** What a move brings to a cell is what stands where the undoing one leads. */
        boolean isAhead(int move, int other) {
            int undoing = grid.undoing(move);
            int undoingOther = grid.undoing(other);
            for (int cell = 0; cell < grid.cells; cell++) {
                int hue = patch.hueAt[grid.target(undoing, cell)];
                int otherHue = patch.hueAt[grid.target(undoingOther, cell)];
                if (hue != otherHue) {
                    return hue < otherHue;
                }
            }
            return false;
        }
    }

    /** Cells of one colour that hang together by sides. */
    private static final class Pieces {
        private final Grid grid;
        private final Patch patch;
        private final int[] line = new int[MOST_CELLS];
        private final boolean[] isReached = new boolean[MOST_CELLS];
        private final int[] placeX = new int[MOST_CELLS];
        private final int[] placeY = new int[MOST_CELLS];
        private int end;
        private boolean runsOn;

        Pieces(Grid grid, Patch patch) {
            this.grid = grid;
            this.patch = patch;
        }

        int total(boolean runs) {
            leaveAll();
            int found = 0;
            for (int cell = 0; cell < grid.cells; cell++) {
                if (!isReached[cell] && patch.hueAt[cell] != HIDDEN) {
                    walk(cell);
                    if (runsOn || !runs) {
                        found++;
                    }
                }
            }
            return found;
        }

        int sizeAt(int cell) {
            leaveAll();
            walk(cell);
            return end;
        }

        void leaveAll() {
            for (int cell = 0; cell < grid.cells; cell++) {
                isReached[cell] = false;
            }
        }

        /** Places are counted on from print to print, so that another print is seen as such. */
        void walk(int start) {
            end = 0;
            runsOn = false;
            arrive(start, grid.columnOf(start), grid.rowOf(start));
            for (int i = 0; i < end && i < MOST_CELLS; i++) {
                int cell = line[i];
                step(cell, placeX[cell] + 1, placeY[cell]);
                step(cell, placeX[cell] - 1, placeY[cell]);
                step(cell, placeX[cell], placeY[cell] + 1);
                step(cell, placeX[cell], placeY[cell] - 1);
            }
        }

        void step(int from, int x, int y) {
            int cell = grid.cellAt(x, y);
            if (patch.hueAt[cell] != patch.hueAt[from]) {
                return;
            }
            if (!isReached[cell]) {
                arrive(cell, x, y);
            } else if (placeX[cell] != x || placeY[cell] != y) {
                runsOn = true;
            }
        }

        void arrive(int cell, int x, int y) {
            isReached[cell] = true;
            placeX[cell] = x;
            placeY[cell] = y;
            line[end] = cell;
            end++;
        }
    }
}
