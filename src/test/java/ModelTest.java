import java.util.Arrays;
import java.util.List;
import java.util.Random;

/** Holds the class against the model: all moves of all sizes, and long runs of drawn calls. */
public final class ModelTest {
    private static final String[] CALLS = {
        "patch", "colours", "dye", "dyes", "at", "moves", "lead", "behind", "back", "order",
        "keeps", "kept", "keeper", "go", "least", "mirrored", "mirror", "kind", "paints", "paint",
        "keepsBy", "by", "swaps", "tell", "untell", "together", "rings", "ring", "mend", "sure",
        "torn", "papers", "upTo", "like", "first", "toFirst", "pieces", "piece", "count",
    };
    /** NONE counts as refused here. */
    private static final List<String> REFUSING = List.of(
        "patch", "colours", "dye", "dyes", "at", "lead", "behind", "back", "order", "keeps", "kept", "keeper", "go",
        "mirrored", "mirror", "paint", "keepsBy", "by", "tell", "ring", "sure", "papers", "upTo", "first", "piece",
        "count");
    private static final int[] ODD = {
        -1, Integer.MIN_VALUE, Integer.MAX_VALUE, -9, 8, 9, 10, 36, 37, 288, 1000, 7, 5, 4,
    };

    /** With a look at each of 36 cells in the end, as many as an object is promised for. */
    private static final int CALLS_DRAWN = 476;

    private static int wrong = 0;
    private static final boolean[] kindSeen = new boolean[12];
    private static final int[] asked = new int[CALLS.length];
    private static final int[] refused = new int[CALLS.length];

    private PaperRepeats paper;
    private Model model;
    private final Random random;
    private final StringBuilder story = new StringBuilder();

    private ModelTest(long seed) {
        random = new Random(seed);
        paper = new PaperRepeats();
        model = new Model();
    }

    public static void main(String[] args) {
        for (int w = 1; w <= 6; w++) {
            for (int h = 1; h <= 6; h++) {
                compareMoves(w, h);
            }
        }
        for (int seed = 0; seed < 100; seed++) {
            new ModelTest(seed).run(CALLS_DRAWN);
        }
        for (int seed = 0; seed < 800; seed++) {
            new ModelTest(seed).mended();
        }
        demandThatMuchWasMet();
        System.out.println(wrong == 0 ? "the class answers as the model" : wrong + " answers differ");
        if (wrong != 0) {
            System.exit(1);
        }
    }

    private static void demandThatMuchWasMet() {
        for (int kind = 0; kind < 12; kind++) {
            if (!kindSeen[kind]) {
                wrong++;
                System.out.println("no run met kind " + kind);
            }
        }
        for (int call = 0; call < CALLS.length; call++) {
            if (asked[call] < 100) {
                wrong++;
                System.out.println(CALLS[call] + " was called " + asked[call] + " times");
            }
            if (REFUSING.contains(CALLS[call]) != refused[call] > 0) {
                wrong++;
                System.out.println(CALLS[call] + " was refused " + refused[call] + " times");
            }
        }
    }

    private static PaperRepeats patchOf(int w, int h) {
        PaperRepeats paper = new PaperRepeats();
        paper.patch(w, h);
        return paper;
    }

    private static void compareMoves(int w, int h) {
        PaperRepeats paper = patchOf(w, h);
        Model model = new Model();
        model.patch(w, h);
        String size = w + " by " + h + ": ";
        same(size + "moves()", paper.moves(), model.moves());
        boolean[] isMove = new boolean[8 * w * h];
        for (int move : model.allMoves()) {
            isMove[move] = true;
        }
        for (int move = 0; move < 8 * w * h; move++) {
            // An object is promised for 512 calls alone.
            paper = patchOf(w, h);
            if (!isMove[move]) {
                same(size + "order(" + move + ")", paper.order(move), -1);
                same(size + "lead(" + move + ", 0)", paper.lead(move, 0), -1);
                continue;
            }
            same(size + "order(" + move + ")", paper.order(move), model.order(move));
            same(size + "back(" + move + ")", paper.back(move), model.back(move));
            same(size + "mirror(" + move + ")", paper.mirror(move), model.mirror(move));
            for (int cell = 0; cell < w * h; cell++) {
                same(size + "lead(" + move + ", " + cell + ")", paper.lead(move, cell), model.to(move, cell));
            }
            for (int next = 0; next < 8 * w * h; next++) {
                int due = isMove[next] ? model.joined(move, next) : -1;
                same(size + "behind(" + move + ", " + next + ")", paper.behind(move, next), due);
            }
        }
    }

    private static void same(String call, long got, long due) {
        if (got != due) {
            wrong++;
            System.out.println(call + " answered " + got + ", the model " + due);
        }
    }

    private void run(int calls) {
        for (int i = 0; i < calls; i++) {
            if (!oneCall(drawCall())) {
                wrong++;
                System.out.println(story);
                return;
            }
        }
        for (int cell = 0; cell < model.cells(); cell++) {
            same(story + "at(" + cell + ") in the end", paper.at(cell), model.at(cell));
        }
    }

    /** Drawn patches that told moves keep are of all kinds; few drawn ones else are of any but 0. */
    private void mended() {
        int side = random.nextBoolean() ? 4 : 1 + random.nextInt(6);
        int other = random.nextInt(3) > 0 ? side : 1 + random.nextInt(6);
        int hues = 2 + random.nextInt(3);
        same("patch", paper.patch(side, other), model.patch(side, other));
        same("colours", paper.colours(hues), model.colours(hues));
        for (int i = random.nextInt(4); i >= 0; i--) {
            int move = model.allMoves().get(random.nextInt(model.moves()));
            same("tell", paper.tell(move), model.tell(move));
        }
        for (int cell = 0; cell < model.cells(); cell++) {
            int hue = random.nextInt(hues);
            same("dye", paper.dye(cell, hue), model.dye(cell, hue));
        }
        same("mend", paper.mend(true), model.mend(true));
        String what = side + " by " + other + " of " + model.figures(model.hue) + ": ";
        same(what + "kind()", paper.kind(), model.kind());
        kindSeen[model.kind()] = true;
        same(what + "least()", paper.least(), model.least());
        same(what + "swaps()", paper.swaps(), model.swaps());
        same(what + "like()", paper.like(), model.like());
        same(what + "toFirst()", paper.toFirst(), model.toFirst());
        same(what + "pieces(false)", paper.pieces(false), model.pieces(false));
        same(what + "pieces(true)", paper.pieces(true), model.pieces(true));
        for (int turn = 0; turn <= 8; turn++) {
            same(what + "kept(" + turn + ")", paper.kept(turn), model.kept(turn));
            same(what + "mirrored(" + turn + ")", paper.mirrored(turn), model.mirrored(turn));
        }
    }

    private int drawCall() {
        int draw = random.nextInt(100);
        if (draw < 2) {
            return 0;
        }
        if (draw < 4) {
            return 1;
        }
        if (draw < 12) {
            return 3;
        }
        if (draw < 20) {
            return Arrays.asList(CALLS).indexOf("mend");
        }
        if (draw < 30) {
            return Arrays.asList(CALLS).indexOf("kind");
        }
        if (draw < 38) {
            return Arrays.asList(CALLS).indexOf(random.nextInt(3) == 0 ? "untell" : "tell");
        }
        // A new patch or other colours too often would leave no run long enough.
        return 2 + random.nextInt(CALLS.length - 2);
    }

    private int odd() {
        return ODD[random.nextInt(ODD.length)];
    }

    private int drawCell() {
        return random.nextInt(12) == 0 ? odd() : random.nextInt(model.cells());
    }

    private int drawMove() {
        if (random.nextInt(12) == 0) {
            return random.nextBoolean() ? odd() : random.nextInt(300);
        }
        int size = model.moves();
        return model.allMoves().get(random.nextInt(size));
    }

    private int drawHue() {
        return random.nextInt(10) == 0 ? odd() : random.nextInt(6) == 0 ? 9 : random.nextInt(model.k);
    }

    private int drawFigures(int m) {
        if (random.nextInt(12) == 0) {
            return random.nextBoolean() ? odd() : random.nextInt();
        }
        int number = 0;
        boolean someHidden = random.nextInt(3) == 0;
        for (int i = 0; i < m && i < 9; i++) {
            number = number * 10 + (someHidden && random.nextInt(4) == 0 ? 9 : random.nextInt(model.k));
        }
        return number;
    }

    private int drawSide() {
        return random.nextInt(12) == 0 ? random.nextInt(9) - 1 : 1 + random.nextInt(6);
    }

    private boolean oneCall(int call) {
        int side = drawSide();
        int other = random.nextInt(2) == 0 ? side : drawSide();
        int cell = drawCell();
        int move = drawMove();
        int next = drawMove();
        int hue = drawHue();
        int m = random.nextInt(8) == 0 ? odd() : 1 + random.nextInt(9);
        int n = drawFigures(m);
        int small = random.nextInt(12) - 1;
        int paint = random.nextInt(6) == 0 ? odd() : random.nextInt(model.paints());
        boolean flag = random.nextBoolean();
        int[] drawn = {side, other, cell, move, next, hue, m, n, small, paint, flag ? 1 : 0};
        long[] both = answers(call, drawn);
        story.append(CALLS[call]).append(' ').append(Arrays.toString(drawn)).append(" -> ").append(both[0]).append('\n');
        asked[call]++;
        refused[call] += both[1] < 0 ? 1 : 0;
        if (CALLS[call].equals("kind")) {
            kindSeen[(int) both[1]] = true;
        }
        if (both[0] != both[1]) {
            story.append("the model: ").append(both[1]).append('\n');
        }
        return both[0] == both[1];
    }

    /** What the class and the model answer; drawn: side, other, cell, move, next, hue, m, n, small, paint, flag. */
    private long[] answers(int call, int[] drawn) {
        int side = drawn[0], other = drawn[1], cell = drawn[2], move = drawn[3], next = drawn[4], hue = drawn[5];
        int m = drawn[6], n = drawn[7], small = drawn[8], paint = drawn[9];
        boolean flag = drawn[10] == 1;
        switch (CALLS[call]) {
            case "patch": return pair(paper.patch(side, other), model.patch(side, other));
            case "colours": return pair(paper.colours(small - 1), model.colours(small - 1));
            case "dye": return pair(paper.dye(cell, hue), model.dye(cell, hue));
            case "dyes": return pair(paper.dyes(cell, m, n), model.dyes(cell, m, n));
            case "at": return pair(paper.at(cell), model.at(cell));
            case "moves": return pair(paper.moves(), model.moves());
            case "lead": return pair(paper.lead(move, cell), model.lead(move, cell));
            case "behind": return pair(paper.behind(move, next), model.behind(move, next));
            case "back": return pair(paper.back(move), model.back(move));
            case "order": return pair(paper.order(move), model.order(move));
            case "keeps": return pair(paper.keeps(move), model.keeps(move));
            case "kept": return pair(paper.kept(small), model.kept(small));
            case "keeper": return pair(paper.keeper(small), model.keeper(small));
            case "go": return pair(paper.go(move), model.go(move));
            case "least": return pair(paper.least(), model.least());
            case "mirrored": return pair(paper.mirrored(small), model.mirrored(small));
            case "mirror": return pair(paper.mirror(move), model.mirror(move));
            case "kind": return pair(paper.kind(), model.kind());
            case "paints": return pair(paper.paints(), model.paints());
            case "paint": return pair(paper.paint(paint, hue), model.paint(paint, hue));
            default: return laterAnswers(call, cell, move, small, paint, flag);
        }
    }

    private long[] laterAnswers(int call, int cell, int move, int small, int paint, boolean flag) {
        switch (CALLS[call]) {
            case "keepsBy": return pair(paper.keepsBy(move, paint), model.keepsBy(move, paint));
            case "by": return pair(paper.by(move), model.by(move));
            case "swaps": return pair(paper.swaps(), model.swaps());
            case "tell": return pair(paper.tell(move), model.tell(move));
            case "untell": return pair(paper.untell(), model.untell());
            case "together": return pair(paper.together(), model.together());
            case "rings": return pair(paper.rings(), model.rings());
            case "ring": return pair(paper.ring(cell), model.ring(cell));
            case "mend": return pair(paper.mend(flag), model.mend(flag));
            case "sure": return pair(paper.sure(cell), model.sure(cell));
            case "torn": return pair(paper.torn(), model.torn());
            case "papers": return pair(paper.papers(), model.papers());
            case "upTo": return pair(paper.upTo(), model.upTo());
            case "like": return pair(paper.like(), model.like());
            case "first": return pair(paper.first(cell), model.first(cell));
            case "toFirst": return pair(paper.toFirst(), model.toFirst());
            case "pieces": return pair(paper.pieces(flag), model.pieces(flag));
            case "piece": return pair(paper.piece(cell), model.piece(cell));
            default: return pair(paper.count(small), model.count(small));
        }
    }

    private static long[] pair(long got, long due) {
        return new long[] {got, due};
    }
}
