/**
 * Every paper of small sizes, hidden cells among them: the class answers as the model does of each, and what it
 * counts of all papers is what there is when each is looked at.
 */
public final class EveryPaperTest {
    private static final int HIDDEN = 9;

    private static int wrong = 0;

    private final int w;
    private final int h;
    private final int k;
    private final Model model = new Model();
    private PaperRepeats paper;

    private EveryPaperTest(int w, int h, int k) {
        this.w = w;
        this.h = h;
        this.k = k;
        model.patch(w, h);
        model.colours(k);
    }

    public static void main(String[] args) {
        for (int w = 1; w <= 3; w++) {
            for (int h = 1; h <= 3; h++) {
                new EveryPaperTest(w, h, 1).compareAll(true);
                new EveryPaperTest(w, h, 2).compareAll(w * h < 9);
                new EveryPaperTest(w, h, 2).countKept();
            }
        }
        new EveryPaperTest(4, 2, 2).compareAll(false);
        new EveryPaperTest(2, 4, 2).countKept();
        new EveryPaperTest(1, 5, 4).compareAll(false);
        new EveryPaperTest(2, 2, 4).compareAll(true);
        System.out.println(wrong == 0 ? "every paper answers as due" : wrong + " answers are not as due");
        if (wrong != 0) {
            System.exit(1);
        }
    }

    private void same(String call, long got, long due) {
        if (got != due) {
            wrong++;
            System.out.println(w + " by " + h + " of " + k + ", " + model.figures(model.hue) + ": " + call
                + " answered " + got + ", due is " + due);
        }
    }

    private long papersOf(int figures) {
        long all = 1;
        for (int cell = 0; cell < w * h; cell++) {
            all *= figures;
        }
        return all;
    }

    /**
     * The number's figures are the colours; the one behind all colours stands for hidden. Each paper is an object of
     * its own, since one is promised for 512 calls alone.
     */
    private void print(long number, int figures) {
        paper = new PaperRepeats();
        paper.patch(w, h);
        paper.colours(k);
        long rest = number;
        for (int cell = 0; cell < w * h; cell++) {
            int figure = (int) (rest % figures);
            paper.dye(cell, figure == k ? HIDDEN : figure);
            model.dye(cell, figure == k ? HIDDEN : figure);
            rest /= figures;
        }
    }

    private void compareAll(boolean withHidden) {
        int figures = withHidden ? k + 1 : k;
        long firsts = 0;
        for (long number = 0; number < papersOf(figures); number++) {
            print(number, figures);
            compare();
            firsts += isItsOwnFirst() && paper.count(2) == 0 ? 1 : 0;
        }
        same("upTo()", paper.upTo(), firsts);
    }

    private void compare() {
        same("kept(8)", paper.kept(8), model.kept(8));
        same("least()", paper.least(), model.least());
        same("kind()", paper.kind(), model.kind());
        same("swaps()", paper.swaps(), model.swaps());
        same("like()", paper.like(), model.like());
        same("toFirst()", paper.toFirst(), model.toFirst());
        same("pieces(false)", paper.pieces(false), model.pieces(false));
        same("pieces(true)", paper.pieces(true), model.pieces(true));
    }

    private boolean isItsOwnFirst() {
        for (int cell = 0; cell < w * h; cell++) {
            if (paper.first(cell) != paper.at(cell)) {
                return false;
            }
        }
        return true;
    }

    /** Of each told move, as many papers are kept as the class counts; none of these is to be mended. */
    private void countKept() {
        for (int move : model.allMoves()) {
            long kept = 0;
            for (long number = 0; number < papersOf(k); number++) {
                print(number, k);
                paper.tell(move);
                kept += paper.keeps(move);
                same("mend(false) == 0 by " + move, paper.mend(false) == 0 ? 1 : 0, paper.keeps(move));
                same("torn() == 0 by " + move, paper.torn() == 0 ? 1 : 0, paper.keeps(move));
            }
            same("papers() by " + move, paper.papers(), kept);
        }
    }
}
