/** The promises of the document one by one: what is usual, the edges, and what is refused. */
public final class PromiseTest {
    private static final int UNKNOWN = -1, BAD = -2, LATE = -3, FULL = -4, NONE = -9;
    private static final int LOWEST = Integer.MIN_VALUE;
    private static final int HIGHEST = Integer.MAX_VALUE;

    private static int wrong = 0;
    private static int promise = 0;

    public static void main(String[] args) {
        newObject();
        patch();
        colours();
        dye();
        dyes();
        at();
        moves();
        lead();
        behind();
        back();
        order();
        keeps();
        kept();
        keeper();
        go();
        least();
        mirrored();
        mirror();
        kind();
        paints();
        paint();
        keepsBy();
        by();
        swaps();
        tell();
        untell();
        together();
        rings();
        ring();
        mend();
        sure();
        torn();
        papers();
        upTo();
        like();
        first();
        toFirst();
        pieces();
        piece();
        count();
        largestPatch();
        System.out.println(wrong == 0 ? "all promises hold" : wrong + " answers are not as due");
        if (wrong != 0) {
            System.exit(1);
        }
    }

    private static void due(String call, long got, long want) {
        if (got != want) {
            wrong++;
            System.out.println("promise " + promise + ": " + call + " answered " + got + ", due is " + want);
        }
    }

    /** A paper whose cells have the figures' colours; rows are parted by spaces. */
    private static PaperRepeats paper(int hues, String rows) {
        String[] parts = rows.split(" ");
        PaperRepeats x = new PaperRepeats();
        x.patch(parts[0].length(), parts.length);
        x.colours(hues);
        String all = rows.replace(" ", "");
        for (int cell = 0; cell < all.length(); cell++) {
            x.dye(cell, all.charAt(cell) - '0');
        }
        return x;
    }

    private static void cellsDue(String call, PaperRepeats x, String rows) {
        String all = rows.replace(" ", "");
        for (int cell = 0; cell < all.length(); cell++) {
            due(call + ", then at(" + cell + ")", x.at(cell), all.charAt(cell) - '0');
        }
        due(call + ", then at the end", x.at(all.length()), UNKNOWN);
    }

    private static void newObject() {
        promise = 1;
        PaperRepeats x = new PaperRepeats();
        cellsDue("a new object", x, "0000 0000 0000 0000");
        due("count(0)", x.count(0), 16);
        due("count(1)", x.count(1), 2);
        due("count(2)", x.count(2), 0);
        due("count(3)", x.count(3), 0);
        due("lead(1, 3)", x.lead(1, 3), 0);
        due("lead(4, 12)", x.lead(4, 12), 0);
        due("rings()", x.rings(), 16);
        due("ring(15)", x.ring(15), 15);
        due("UNKNOWN", PaperRepeats.UNKNOWN, UNKNOWN);
        due("BAD", PaperRepeats.BAD, BAD);
        due("LATE", PaperRepeats.LATE, LATE);
        due("FULL", PaperRepeats.FULL, FULL);
        due("NONE", PaperRepeats.NONE, NONE);
        x.dye(0, 1);
        due("another object's at(0)", new PaperRepeats().at(0), 0);
    }

    private static void patch() {
        promise = 2;
        PaperRepeats x = new PaperRepeats();
        x.colours(4);
        x.tell(1);
        due("patch(6, 5)", x.patch(6, 5), 30);
        due("count(3)", x.count(3), 0);
        due("rings()", x.rings(), 30);
        due("count(1): colours stay", x.count(1), 4);
        due("lead(1, 5)", x.lead(1, 5), 0);
        x.dye(29, 3);
        x.dye(0, 9);
        x.tell(2);
        int[][] bad = {{0, 1}, {1, 0}, {7, 1}, {1, 7}, {-1, -1}, {LOWEST, 3}, {3, HIGHEST}};
        for (int[] size : bad) {
            due("patch(" + size[0] + ", " + size[1] + ")", x.patch(size[0], size[1]), BAD);
        }
        due("count(0) behind BAD", x.count(0), 30);
        due("at(29) behind BAD", x.at(29), 3);
        due("count(3) behind BAD", x.count(3), 1);
        due("patch(6, 5) again", x.patch(6, 5), 30);
        due("at(29)", x.at(29), 0);
        due("at(0)", x.at(0), 0);
        due("count(3)", x.count(3), 0);
        due("patch(1, 1)", x.patch(1, 1), 1);
        due("patch(6, 6)", x.patch(6, 6), 36);
        due("patch(1, 6)", x.patch(1, 6), 6);
        due("moves() of a strip", x.moves(), 24);
    }

    private static void colours() {
        promise = 3;
        PaperRepeats x = new PaperRepeats();
        due("colours(4)", x.colours(4), 2);
        x.dyes(0, 5, 12390);
        x.tell(1);
        due("colours(0)", x.colours(0), BAD);
        due("colours(5)", x.colours(5), BAD);
        due("colours(LOWEST)", x.colours(LOWEST), BAD);
        due("colours(HIGHEST)", x.colours(HIGHEST), BAD);
        cellsDue("BAD", x, "1239 0000 0000 0000");
        due("colours(3)", x.colours(3), 4);
        cellsDue("colours(3)", x, "1209 0000 0000 0000");
        due("colours(1)", x.colours(1), 3);
        cellsDue("colours(1)", x, "0009 0000 0000 0000");
        due("colours(4) again", x.colours(4), 1);
        cellsDue("colours(4)", x, "0009 0000 0000 0000");
        due("count(3): told moves stay", x.count(3), 1);
        due("colours(4) once more", x.colours(4), 4);
    }

    private static void dye() {
        promise = 4;
        PaperRepeats x = new PaperRepeats();
        due("dye(15, 1)", x.dye(15, 1), 0);
        due("dye(15, 9)", x.dye(15, 9), 1);
        due("dye(15, 0)", x.dye(15, 0), 9);
        due("dye(15, 1)", x.dye(15, 1), 0);
        due("dye(15, 2)", x.dye(15, 2), BAD);
        due("dye(15, -1)", x.dye(15, -1), BAD);
        due("dye(15, 8)", x.dye(15, 8), BAD);
        due("dye(15, 10)", x.dye(15, 10), BAD);
        due("dye(15, LOWEST)", x.dye(15, LOWEST), BAD);
        due("dye(16, 0)", x.dye(16, 0), UNKNOWN);
        due("dye(-1, 0)", x.dye(-1, 0), UNKNOWN);
        due("dye(16, 7): the cell first", x.dye(16, 7), UNKNOWN);
        due("dye(HIGHEST, 0)", x.dye(HIGHEST, 0), UNKNOWN);
        cellsDue("dye", x, "0000 0000 0000 0001");
        x.colours(1);
        due("dye(0, 1) of one colour", x.dye(0, 1), BAD);
        due("dye(0, 9) of one colour", x.dye(0, 9), 0);
    }

    private static void dyes() {
        promise = 5;
        PaperRepeats x = new PaperRepeats();
        due("dyes(1, 4, 101)", x.dyes(1, 4, 101), 2);
        cellsDue("dyes(1, 4, 101)", x, "0010 1000 0000 0000");
        due("dyes(7, 9, 900000001)", x.dyes(7, 9, 900000001), 2);
        cellsDue("dyes(7, 9, 900000001)", x, "0010 1009 0000 0001");
        due("dyes(7, 9, 900000001) again", x.dyes(7, 9, 900000001), 0);
        due("dyes(0, 1, 9)", x.dyes(0, 1, 9), 1);
        due("dyes(0, 3, 0)", x.dyes(0, 3, 0), 2);
        due("dyes(15, 1, 0)", x.dyes(15, 1, 0), 1);
        due("dyes(0, 9, 999999999)", x.dyes(0, 9, 999999999), 8);
        cellsDue("dyes(0, 9, 999999999)", x, "9999 9999 9000 0000");
        dyesRefused(x);
        cellsDue("refused", x, "9999 9999 9000 0000");
        x.patch(1, 1);
        due("dyes(0, 1, 1) of one cell", x.dyes(0, 1, 1), 1);
        due("dyes(0, 2, 1) of one cell", x.dyes(0, 2, 1), UNKNOWN);
        due("dyes(0, 0, 0) of one cell", x.dyes(0, 0, 0), BAD);
    }

    private static void dyesRefused(PaperRepeats x) {
        due("dyes(-1, 1, 0)", x.dyes(-1, 1, 0), UNKNOWN);
        due("dyes(16, 1, 0)", x.dyes(16, 1, 0), UNKNOWN);
        due("dyes(16, 0, 0): the cell first", x.dyes(16, 0, 0), UNKNOWN);
        due("dyes(13, 4, 0)", x.dyes(13, 4, 0), UNKNOWN);
        due("dyes(0, 17, 0): not so many first", x.dyes(0, 17, 0), UNKNOWN);
        due("dyes(10, 10, 0)", x.dyes(10, 10, 0), UNKNOWN);
        due("dyes(5, HIGHEST, 0)", x.dyes(5, HIGHEST, 0), UNKNOWN);
        due("dyes(14, 3, 222): not so many first", x.dyes(14, 3, 222), UNKNOWN);
        due("dyes(0, 10, 0)", x.dyes(0, 10, 0), BAD);
        due("dyes(0, 0, 0)", x.dyes(0, 0, 0), BAD);
        due("dyes(0, -1, 0)", x.dyes(0, -1, 0), BAD);
        due("dyes(0, LOWEST, 0)", x.dyes(0, LOWEST, 0), BAD);
        due("dyes(0, 3, -1)", x.dyes(0, 3, -1), BAD);
        due("dyes(0, 3, LOWEST)", x.dyes(0, 3, LOWEST), BAD);
        due("dyes(0, 3, 1000)", x.dyes(0, 3, 1000), BAD);
        due("dyes(0, 9, 1000000000)", x.dyes(0, 9, 1000000000), BAD);
        due("dyes(0, 9, HIGHEST)", x.dyes(0, 9, HIGHEST), BAD);
        due("dyes(0, 3, 102)", x.dyes(0, 3, 102), BAD);
        due("dyes(0, 3, 200)", x.dyes(0, 3, 200), BAD);
        due("dyes(0, 3, 180)", x.dyes(0, 3, 180), BAD);
    }

    private static void at() {
        promise = 6;
        PaperRepeats x = paper(4, "012 319");
        due("at(0)", x.at(0), 0);
        due("at(3)", x.at(3), 3);
        due("at(5)", x.at(5), 9);
        due("at(6)", x.at(6), UNKNOWN);
        due("at(-1)", x.at(-1), UNKNOWN);
        due("at(LOWEST)", x.at(LOWEST), UNKNOWN);
        due("at(HIGHEST)", x.at(HIGHEST), UNKNOWN);
    }

    private static void moves() {
        promise = 7;
        PaperRepeats x = new PaperRepeats();
        for (int w = 1; w <= 6; w++) {
            for (int h = 1; h <= 6; h++) {
                x.patch(w, h);
                due("moves() of " + w + " by " + h, x.moves(), w == h ? 8 * w * h : 4 * w * h);
            }
        }
    }

    private static void lead() {
        promise = 8;
        PaperRepeats x = new PaperRepeats();
        x.patch(5, 5);
        // Cell 7 is x 2, y 1; the shift 14 is x 4, y 2.
        int[] turned = {7, 14, 23, 16, 8, 22, 11, 19};
        int[] shifted = {16, 23, 7, 0, 17, 6, 20, 3};
        for (int turn = 0; turn < 8; turn++) {
            due("lead(turn " + turn + ", 7)", x.lead(turn * 25, 7), turned[turn]);
            due("lead(turn " + turn + " and 14, 7)", x.lead(turn * 25 + 14, 7), shifted[turn]);
        }
        due("lead(200, 0)", x.lead(200, 0), UNKNOWN);
        due("lead(-1, 0)", x.lead(-1, 0), UNKNOWN);
        due("lead(0, 25)", x.lead(0, 25), UNKNOWN);
        due("lead(0, -1)", x.lead(0, -1), UNKNOWN);
        due("lead(HIGHEST, LOWEST)", x.lead(HIGHEST, LOWEST), UNKNOWN);
        due("lead(199, 24)", x.lead(199, 24), 0);
        x.patch(3, 2);
        due("lead(17, 5): half a turn, shift 2, 1", x.lead(17, 5), 0);
        due("lead(24, 4): x mirrored", x.lead(24, 4), 5);
        due("lead(30, 4): y mirrored", x.lead(30, 4), 4);
        int[] absent = {6, 11, 18, 23, 36, 41, 42, 47, 48};
        for (int move : absent) {
            due("lead(" + move + ", 0) of 3 by 2", x.lead(move, 0), UNKNOWN);
        }
    }

    private static void behind() {
        promise = 9;
        PaperRepeats x = new PaperRepeats();
        x.patch(3, 3);
        due("a quarter, then a shift by 1, 0", x.behind(9, 1), 10);
        due("a shift by 1, 0, then a quarter", x.behind(1, 9), 12);
        due("a quarter, then x mirrored", x.behind(9, 36), 54);
        due("x mirrored, then a quarter", x.behind(36, 9), 63);
        due("x and y changed, then half", x.behind(54, 18), 63);
        due("behind(71, 0)", x.behind(71, 0), 71);
        due("behind(0, 71)", x.behind(0, 71), 71);
        due("behind(72, 0)", x.behind(72, 0), UNKNOWN);
        due("behind(0, 72)", x.behind(0, 72), UNKNOWN);
        due("behind(-1, 0)", x.behind(-1, 0), UNKNOWN);
        due("behind(0, LOWEST)", x.behind(0, LOWEST), UNKNOWN);
        x.patch(2, 3);
        due("behind(25, 32)", x.behind(25, 32), 15);
        due("behind(24, 30): another number than a shift's", x.behind(24, 30), 12);
        due("behind(6, 0)", x.behind(6, 0), UNKNOWN);
        due("behind(0, 36)", x.behind(0, 36), UNKNOWN);
        x.patch(1, 1);
        due("behind(1, 1) of one cell", x.behind(1, 1), 2);
        due("behind(4, 1) of one cell", x.behind(4, 1), 7);
    }

    private static void back() {
        promise = 10;
        PaperRepeats x = new PaperRepeats();
        x.patch(3, 3);
        due("back(0)", x.back(0), 0);
        due("back(1)", x.back(1), 2);
        due("back(10)", x.back(10), 30);
        due("back(30)", x.back(30), 10);
        due("back(22)", x.back(22), 22);
        due("back(55)", x.back(55), 60);
        due("back(72)", x.back(72), UNKNOWN);
        due("back(-1)", x.back(-1), UNKNOWN);
        x.patch(2, 3);
        due("back(26)", x.back(26), 28);
        due("back(6)", x.back(6), UNKNOWN);
        due("back(47)", x.back(47), UNKNOWN);
        x.patch(1, 1);
        due("back(3) of one cell", x.back(3), 1);
    }

    private static void order() {
        promise = 11;
        PaperRepeats x = new PaperRepeats();
        x.patch(6, 5);
        due("order(0)", x.order(0), 1);
        due("order(7): a shift by 1, 1", x.order(7), 30);
        due("order(3): a shift by 3, 0", x.order(3), 2);
        due("order(60): half a turn", x.order(60), 2);
        due("order(126): a glide", x.order(126), 10);
        due("order(30)", x.order(30), UNKNOWN);
        due("order(239)", x.order(239), UNKNOWN);
        due("order(240)", x.order(240), UNKNOWN);
        due("order(-1)", x.order(-1), UNKNOWN);
        x.patch(6, 6);
        due("order(36): a quarter", x.order(36), 4);
        due("order(217): a glide by 1, 0", x.order(217), 12);
        x.patch(2, 2);
        due("order(8): half a turn leaves two by two", x.order(8), 1);
        due("order(4): a quarter of two by two", x.order(4), 2);
        x.patch(1, 1);
        due("order(7) of one cell", x.order(7), 1);
    }

    private static void keeps() {
        promise = 12;
        PaperRepeats x = paper(3, "010 222 010");
        due("keeps(0)", x.keeps(0), 1);
        due("keeps(1)", x.keeps(1), 0);
        due("keeps(38): x mirrored about the middle", x.keeps(38), 1);
        due("keeps(36)", x.keeps(36), 0);
        due("keeps(26): half a turn", x.keeps(26), 1);
        due("keeps(17): a quarter", x.keeps(17), 0);
        due("keeps(72)", x.keeps(72), UNKNOWN);
        due("keeps(-1)", x.keeps(-1), UNKNOWN);
        x.dye(0, 9);
        due("keeps(38), one hidden", x.keeps(38), 0);
        x.dye(2, 9);
        due("keeps(38), both hidden", x.keeps(38), 1);
        x.patch(3, 2);
        due("keeps(6)", x.keeps(6), UNKNOWN);
        due("keeps(35)", x.keeps(35), 1);
    }

    private static void kept() {
        promise = 13;
        PaperRepeats x = paper(2, "10 01 10");
        int[] ofTurns = {1, 0, 1, 0, 1, 1, 0, 0, 4};
        for (int turn = 0; turn <= 8; turn++) {
            due("kept(" + turn + ")", x.kept(turn), ofTurns[turn]);
        }
        x = paper(2, "10 01");
        for (int turn = 0; turn < 8; turn++) {
            due("kept(" + turn + ") of a board", x.kept(turn), 2);
        }
        due("kept(8) of a board", x.kept(8), 16);
        due("kept(9)", x.kept(9), BAD);
        due("kept(-1)", x.kept(-1), BAD);
        due("kept(LOWEST)", x.kept(LOWEST), BAD);
        due("kept(HIGHEST)", x.kept(HIGHEST), BAD);
    }

    private static void keeper() {
        promise = 14;
        PaperRepeats x = paper(2, "10 01 10");
        int[] all = {0, 16, 24, 34};
        for (int i = 0; i < 4; i++) {
            due("keeper(" + i + ")", x.keeper(i), all[i]);
        }
        due("keeper(4)", x.keeper(4), NONE);
        due("keeper(-1)", x.keeper(-1), NONE);
        due("keeper(LOWEST)", x.keeper(LOWEST), NONE);
        due("keeper(HIGHEST)", x.keeper(HIGHEST), NONE);
        x.patch(6, 6);
        due("keeper(287) of one colour", x.keeper(287), 287);
        due("keeper(288) of one colour", x.keeper(288), NONE);
        x.patch(2, 3);
        due("keeper(6) of one colour, no quarter turns", x.keeper(6), 12);
    }

    private static void go() {
        promise = 15;
        PaperRepeats x = paper(4, "012 390 000");
        due("go(1)", x.go(1), 6);
        cellsDue("go(1)", x, "201 039 000");
        due("go(9): a quarter", x.go(9), 5);
        cellsDue("go(9)", x, "200 003 109");
        due("go(0)", x.go(0), 0);
        due("go(72)", x.go(72), UNKNOWN);
        due("go(-1)", x.go(-1), UNKNOWN);
        cellsDue("refused", x, "200 003 109");
        x.tell(5);
        x.go(2);
        due("count(3): told moves stay", x.count(3), 1);
        x.patch(2, 1);
        x.dye(0, 1);
        due("go(2)", x.go(2), UNKNOWN);
        due("go(1)", x.go(1), 2);
        cellsDue("go(1)", x, "01");
    }

    private static void least() {
        promise = 16;
        due("least() of one colour", new PaperRepeats().least(), 1);
        due("least() of a board", paper(2, "1010 0101").least(), 2);
        due("least() of stripes", paper(2, "100100").least(), 3);
        due("least() of all its own", paper(2, "100 000").least(), 6);
        due("least() slantwise", paper(3, "012 120 201").least(), 3);
        due("least() with hidden ones", paper(2, "9090").least(), 2);
        due("least() of six by six", paper(2, "100000 000000 000000 000000 000000 000000").least(), 36);
    }

    private static void mirrored() {
        promise = 17;
        PaperRepeats x = paper(2, "1100 1000 0000 0000");
        int[] due = {0, 0, 1, 0};
        for (int turn = 4; turn < 8; turn++) {
            due("mirrored(" + turn + ")", x.mirrored(turn), due[turn - 4]);
        }
        due("mirrored(3)", x.mirrored(3), BAD);
        due("mirrored(8)", x.mirrored(8), BAD);
        due("mirrored(-1)", x.mirrored(-1), BAD);
        due("mirrored(LOWEST)", x.mirrored(LOWEST), BAD);
        due("mirrored(HIGHEST)", x.mirrored(HIGHEST), BAD);
        x = paper(2, "001 011 100 110");
        due("mirrored(4), a glide alone", x.mirrored(4), 0);
        due("kept(4), a glide alone", x.kept(4), 1);
        x.patch(3, 2);
        due("mirrored(5) of one colour", x.mirrored(5), 1);
        due("mirrored(6), not there", x.mirrored(6), 0);
        due("mirrored(7), not there", x.mirrored(7), 0);
    }

    private static void mirror() {
        promise = 18;
        PaperRepeats x = new PaperRepeats();
        x.patch(3, 3);
        String[] mirrors = {"111000000", "100100100", "100001010", "100010001"};
        for (int turn = 4; turn < 8; turn++) {
            for (int shift = 0; shift < 9; shift++) {
                int move = turn * 9 + shift;
                due("mirror(" + move + ")", x.mirror(move), mirrors[turn - 4].charAt(shift) - '0');
            }
        }
        due("mirror(0)", x.mirror(0), BAD);
        due("mirror(35)", x.mirror(35), BAD);
        due("mirror(72)", x.mirror(72), UNKNOWN);
        due("mirror(-1)", x.mirror(-1), UNKNOWN);
        x.dye(0, 1);
        due("mirror(37) of a patch it does not keep", x.mirror(37), 1);
        x.patch(3, 2);
        due("mirror(6): there is no such move", x.mirror(6), UNKNOWN);
        due("mirror(36): there is no such move", x.mirror(36), UNKNOWN);
        due("mirror(12)", x.mirror(12), BAD);
        due("mirror(26)", x.mirror(26), 1);
        due("mirror(27)", x.mirror(27), 0);
        due("mirror(33)", x.mirror(33), 1);
        due("mirror(35)", x.mirror(35), 0);
    }

    private static void kind() {
        promise = 19;
        String[][] ofKinds = {
            {"000 001 022", "9000 0100 0010"},
            {"000 011 101", "000 012 102"},
            {"012", "110 100 000", "1100 1000 0000 0000"},
            {"001 011 100 110"},
            {"01 02 10 20", "10 02 01 20"},
            {"00", "01", "100 010 001", "1000 0100 0000 0000", "0000 0000"},
            {"00 01 10", "01 00 10"},
            {"0011 0101 1100 1010", "0012 0210 1002 1200"},
            {"00 01 00 10", "1100 0011"},
            {"0001 0010 1011 0111", "0001 0010 1022 0122"},
            {"0", "00 01", "9", "0110 1001 1001 0110"},
            {"0001 0010 1000 0100", "0001 0100 0010 1000"},
        };
        for (int kind = 0; kind < ofKinds.length; kind++) {
            for (String rows : ofKinds[kind]) {
                due("kind() of " + rows, paper(3, rows).kind(), kind);
            }
        }
        due("kind() of one colour, no quarter turns", paper(1, "000 000").kind(), 5);
    }

    private static void paints() {
        promise = 20;
        PaperRepeats x = new PaperRepeats();
        int[] due = {1, 2, 6, 24};
        for (int k = 1; k <= 4; k++) {
            x.colours(k);
            due("paints() of " + k, x.paints(), due[k - 1]);
        }
    }

    private static void paint() {
        promise = 21;
        PaperRepeats x = new PaperRepeats();
        String[][] rows = {
            {"0"}, {"01", "10"}, {"012", "021", "102", "120", "201", "210"},
            {"0123", "0132", "0213", "0231", "0312", "0321", "1023", "1032", "1203", "1230", "1302", "1320",
                "2013", "2031", "2103", "2130", "2301", "2310", "3012", "3021", "3102", "3120", "3201", "3210"},
        };
        for (int k = 1; k <= 4; k++) {
            x.colours(k);
            String[] all = rows[k - 1];
            for (int paint = 0; paint < all.length; paint++) {
                for (int colour = 0; colour < k; colour++) {
                    String call = "paint(" + paint + ", " + colour + ") of " + k;
                    due(call, x.paint(paint, colour), all[paint].charAt(colour) - '0');
                }
                due("paint(" + paint + ", " + k + ")", x.paint(paint, k), BAD);
            }
            due("paint(" + all.length + ", 0)", x.paint(all.length, 0), UNKNOWN);
        }
        due("paint(0, 9)", x.paint(0, 9), BAD);
        due("paint(0, -1)", x.paint(0, -1), BAD);
        due("paint(23, HIGHEST)", x.paint(23, HIGHEST), BAD);
        due("paint(-1, 0)", x.paint(-1, 0), UNKNOWN);
        due("paint(24, 9): the paint first", x.paint(24, 9), UNKNOWN);
        due("paint(HIGHEST, LOWEST)", x.paint(HIGHEST, LOWEST), UNKNOWN);
    }

    private static void keepsBy() {
        promise = 22;
        PaperRepeats x = paper(3, "012 120 201");
        due("keepsBy(0, 0)", x.keepsBy(0, 0), 1);
        due("keepsBy(0, 1)", x.keepsBy(0, 1), 0);
        // A shift by 1, 0 leads 0 to where 1 stands, 1 to 2, 2 to 0.
        due("keepsBy(1, 3)", x.keepsBy(1, 3), 1);
        due("keepsBy(1, 4)", x.keepsBy(1, 4), 0);
        due("keepsBy(2, 4)", x.keepsBy(2, 4), 1);
        due("keepsBy(2, 3)", x.keepsBy(2, 3), 0);
        due("keepsBy(72, 0)", x.keepsBy(72, 0), UNKNOWN);
        due("keepsBy(-1, 0)", x.keepsBy(-1, 0), UNKNOWN);
        due("keepsBy(0, 6)", x.keepsBy(0, 6), UNKNOWN);
        due("keepsBy(0, -1)", x.keepsBy(0, -1), UNKNOWN);
        x = paper(2, "0919");
        due("keepsBy(2, 1), hidden to hidden", x.keepsBy(2, 1), 1);
        due("keepsBy(1, 1), hidden to a colour", x.keepsBy(1, 1), 0);
        x = paper(2, "9090");
        due("keepsBy(1, 0), hidden to a colour", x.keepsBy(1, 0), 0);
        due("keepsBy(2, 0), no colour 1", x.keepsBy(2, 0), 1);
        due("keepsBy(2, 1), 0 is not 1", x.keepsBy(2, 1), 0);
        x = paper(2, "9999");
        due("keepsBy(1, 1), all hidden", x.keepsBy(1, 1), 1);
        due("keepsBy(0, 1) of one cell", paper(2, "0").keepsBy(0, 1), 0);
    }

    private static void by() {
        promise = 23;
        PaperRepeats x = paper(3, "012 120 201");
        due("by(0)", x.by(0), 0);
        due("by(1)", x.by(1), 3);
        due("by(2)", x.by(2), 4);
        due("by(4)", x.by(4), 4);
        due("by(72)", x.by(72), UNKNOWN);
        due("by(-1)", x.by(-1), UNKNOWN);
        x = paper(4, "0303");
        due("by(1): the least that gives 0 and 3 one another", x.by(1), 21);
        x.dye(0, 2);
        due("by(1), no paint", x.by(1), NONE);
        x = paper(4, "1212");
        due("by(1), 1 and 2 change", x.by(1), 2);
        x = paper(2, "0919");
        due("by(2) with hidden ones", x.by(2), 1);
        due("by(1), hidden to a colour", x.by(1), NONE);
        x = paper(4, "9999");
        due("by(1), all hidden", x.by(1), 0);
        due("by(4) of four by one", x.by(4), UNKNOWN);
    }

    private static void swaps() {
        promise = 24;
        due("swaps() of one colour", new PaperRepeats().swaps(), 128);
        due("swaps() of 0919", paper(2, "0919").swaps(), 8);
        due("swaps() of 0011", paper(2, "0011").swaps(), 8);
        due("swaps() of 0012", paper(3, "0012").swaps(), 4);
        due("swaps() of a slant", paper(3, "012 120 201").swaps(), 36);
        due("swaps() of one cell otherwise", paper(2, "100 000 000").swaps(), 8);
        due("swaps() of nothing that fits", paper(4, "0120 3012 0301").swaps(), 1);
    }

    private static void tell() {
        promise = 25;
        PaperRepeats x = new PaperRepeats();
        due("tell(128)", x.tell(128), UNKNOWN);
        due("tell(-1)", x.tell(-1), UNKNOWN);
        due("tell(127)", x.tell(127), 1);
        due("tell(127) again", x.tell(127), 2);
        due("tell(0)", x.tell(0), 3);
        due("tell(HIGHEST)", x.tell(HIGHEST), UNKNOWN);
        due("count(3)", x.count(3), 3);
        due("tell(16)", x.tell(16), 4);
        int rings = x.rings();
        due("tell(1)", x.tell(1), FULL);
        due("tell(128): the move first", x.tell(128), UNKNOWN);
        due("count(3) behind FULL", x.count(3), 4);
        due("rings() behind FULL", x.rings(), rings);
        x.patch(3, 2);
        due("tell(6), no quarter turns", x.tell(6), UNKNOWN);
        due("tell(35)", x.tell(35), 1);
    }

    private static void untell() {
        promise = 26;
        PaperRepeats x = new PaperRepeats();
        due("untell() of none", x.untell(), 0);
        x.tell(1);
        x.tell(4);
        due("rings()", x.rings(), 1);
        due("untell()", x.untell(), 2);
        due("rings() then", x.rings(), 16);
        due("together() then", x.together(), 1);
        due("count(3) then", x.count(3), 0);
        due("untell() again", x.untell(), 0);
        due("tell(1) then", x.tell(1), 1);
    }

    private static void together() {
        promise = 27;
        PaperRepeats x = new PaperRepeats();
        x.patch(6, 6);
        due("together() of none", x.together(), 1);
        x.tell(2);
        due("together() of a shift by 2", x.together(), 3);
        x.tell(3);
        due("together() with a shift by 3", x.together(), 6);
        x.tell(36);
        due("together() with a quarter turn", x.together(), 144);
        x.tell(144);
        due("together() of all", x.together(), 288);
        x.patch(2, 3);
        x.tell(24);
        due("together() of a mirror that leaves all cells", x.together(), 2);
        x.patch(1, 1);
        x.tell(1);
        x.tell(6);
        due("together() of one cell", x.together(), 8);
        x.patch(5, 4);
        x.tell(85);
        due("together() of a glide", x.together(), 4);
    }

    private static void rings() {
        promise = 28;
        PaperRepeats x = new PaperRepeats();
        due("rings() of none told", x.rings(), 16);
        x.tell(5);
        due("rings() of a shift by 1, 1", x.rings(), 4);
        x.tell(64);
        due("rings() with x mirrored", x.rings(), 2);
        x.patch(5, 5);
        x.tell(25);
        due("rings() of a quarter turn", x.rings(), 7);
        x.patch(6, 6);
        x.tell(7);
        x.tell(1);
        due("rings() of all shifts", x.rings(), 1);
    }

    private static void ring() {
        promise = 29;
        PaperRepeats x = new PaperRepeats();
        x.patch(3, 2);
        for (int cell = 0; cell < 6; cell++) {
            due("ring(" + cell + ") of none told", x.ring(cell), cell);
        }
        x.tell(24);
        int[] due = {0, 1, 1, 3, 4, 4};
        for (int cell = 0; cell < 6; cell++) {
            due("ring(" + cell + "), x mirrored", x.ring(cell), due[cell]);
        }
        x.tell(1);
        due("ring(2) with a shift", x.ring(2), 0);
        due("ring(5) with a shift", x.ring(5), 3);
        due("ring(6)", x.ring(6), UNKNOWN);
        due("ring(-1)", x.ring(-1), UNKNOWN);
        due("ring(HIGHEST)", x.ring(HIGHEST), UNKNOWN);
    }

    private static void mend() {
        promise = 30;
        PaperRepeats x = paper(4, "3211 9029 9999");
        due("mend(false) of none told", x.mend(false), 0);
        x.tell(1);
        due("mend(false)", x.mend(false), 5);
        cellsDue("mend(false)", x, "3211 9029 9999");
        due("mend(true)", x.mend(true), 5);
        cellsDue("mend(true): most, the least of like ones, all hidden", x, "1111 0000 9999");
        due("mend(true) again", x.mend(true), 0);
        due("keeps(1)", x.keeps(1), 1);
        x = paper(4, "3322");
        x.tell(1);
        due("mend(true) of two and two", x.mend(true), 2);
        cellsDue("mend(true) of two and two", x, "2222");
        x = paper(2, "9990");
        x.tell(2);
        due("mend(true): hidden ones that get a colour", x.mend(true), 1);
        cellsDue("mend(true) of hidden ones", x, "9090");
        due("count(3): told moves stay", x.count(3), 1);
    }

    private static void sure() {
        promise = 31;
        PaperRepeats x = paper(4, "9290 9293 9999");
        due("sure(0) of none told", x.sure(0), NONE);
        x.tell(2);
        due("sure(0), all hidden", x.sure(0), NONE);
        due("sure(1), not hidden", x.sure(1), LATE);
        x.untell();
        x.tell(4);
        due("sure(8), all hidden", x.sure(8), NONE);
        due("sure(9)", x.sure(9), 2);
        due("sure(11), two colours", x.sure(11), NONE);
        due("sure(3)", x.sure(3), LATE);
        due("sure(12)", x.sure(12), UNKNOWN);
        due("sure(-1)", x.sure(-1), UNKNOWN);
        x = paper(1, "90");
        x.tell(1);
        due("sure(0): colour 0", x.sure(0), 0);
        cellsDue("sure changes nothing", x, "90");
    }

    private static void torn() {
        promise = 32;
        PaperRepeats x = paper(4, "0123 9009 9999 0010");
        due("torn() of none told", x.torn(), 0);
        x.tell(1);
        due("torn() of rows", x.torn(), 2);
        x.untell();
        x.tell(4);
        due("torn() of columns", x.torn(), 3);
        x.mend(true);
        due("torn() of mended ones", x.torn(), 0);
    }

    private static void papers() {
        promise = 33;
        PaperRepeats x = new PaperRepeats();
        due("papers()", x.papers(), 65536);
        x.dye(0, 9);
        due("papers(), one hidden", x.papers(), 65536);
        x.tell(5);
        due("papers() of a shift", x.papers(), 16);
        x.colours(1);
        due("papers() of one colour", x.papers(), 1);
        x.patch(5, 5);
        x.colours(4);
        due("papers() of 25 cells", x.papers(), 1125899906842624L);
        x.colours(3);
        due("papers() of 25 cells, three colours", x.papers(), 847288609443L);
        x.patch(6, 4);
        due("papers() of 24 cells", x.papers(), 282429536481L);
        x.patch(5, 6);
        due("papers() of 30 cells", x.papers(), LATE);
        x.tell(1);
        due("papers() of 30 cells, told", x.papers(), LATE);
        x.patch(6, 6);
        due("papers() of 36 cells", x.papers(), LATE);
    }

    private static void upTo() {
        promise = 34;
        PaperRepeats x = new PaperRepeats();
        x.patch(1, 1);
        due("upTo() of one cell", x.upTo(), 2);
        x.patch(4, 1);
        due("upTo() of a ring of four", x.upTo(), 6);
        x.patch(6, 1);
        due("upTo() of a ring of six", x.upTo(), 13);
        x.patch(2, 2);
        due("upTo() of two by two", x.upTo(), 6);
        x.tell(1);
        x.dye(0, 9);
        due("upTo(): told moves and hidden ones are nothing to it", x.upTo(), 6);
        x.colours(1);
        due("upTo() of one colour", x.upTo(), 1);
        x.colours(4);
        x.patch(5, 5);
        due("upTo() of 25 cells", x.upTo(), 5629615301248L);
        x.patch(6, 5);
        due("upTo() of 30 cells", x.upTo(), LATE);
        x.patch(6, 6);
        due("upTo() of 36 cells", x.upTo(), LATE);
    }

    private static void like() {
        promise = 35;
        due("like() of one colour", new PaperRepeats().like(), 1);
        due("like() of one cell otherwise", paper(2, "100 000").like(), 6);
        due("like() of a board", paper(2, "01 10").like(), 2);
        due("like() of a slant", paper(3, "012 120 201").like(), 12);
        due("like() of what no move keeps", paper(3, "000 001 022").like(), 72);
        due("like() of hidden ones", paper(2, "900").like(), 3);
    }

    private static void first() {
        promise = 36;
        PaperRepeats x = paper(4, "3190");
        int[] due = {0, 3, 1, 9};
        for (int cell = 0; cell < 4; cell++) {
            due("first(" + cell + ")", x.first(cell), due[cell]);
        }
        cellsDue("first changes nothing", x, "3190");
        due("first(4)", x.first(4), UNKNOWN);
        due("first(-1)", x.first(-1), UNKNOWN);
        due("first(LOWEST)", x.first(LOWEST), UNKNOWN);
        x = paper(2, "10 00 00");
        for (int cell = 0; cell < 6; cell++) {
            due("first(" + cell + ") of one otherwise", x.first(cell), cell == 5 ? 1 : 0);
        }
        x = paper(3, "000 000 210");
        int[] row = {0, 0, 0, 0, 0, 0, 0, 1, 2};
        for (int cell = 0; cell < 9; cell++) {
            due("first(" + cell + ") by half a turn", x.first(cell), row[cell]);
        }
    }

    private static void toFirst() {
        promise = 37;
        due("toFirst() of one colour", new PaperRepeats().toFirst(), 0);
        due("toFirst() of a first one", paper(2, "001").toFirst(), 0);
        due("toFirst() by a shift", paper(2, "100 000").toFirst(), 5);
        due("toFirst() by half a turn", paper(3, "000 000 210").toFirst(), 23);
        due("toFirst() of 3190", paper(4, "3190").toFirst(), 1);
        due("toFirst() of a hidden one", paper(1, "90").toFirst(), 1);
        PaperRepeats x = paper(3, "0120 2010 1200 0021");
        int[] due = new int[16];
        for (int cell = 0; cell < 16; cell++) {
            due[cell] = x.first(cell);
        }
        x.go(x.toFirst());
        for (int cell = 0; cell < 16; cell++) {
            due("go(toFirst()), then at(" + cell + ")", x.at(cell), due[cell]);
        }
        due("toFirst() of the first", x.toFirst(), 0);
    }

    private static void pieces() {
        promise = 38;
        piecesDue("0", 1, 1);
        piecesDue("9", 0, 0);
        piecesDue("01", 2, 2);
        piecesDue("10 01", 4, 0);
        piecesDue("100 000 000", 2, 1);
        piecesDue("111 101 111", 2, 1);
        piecesDue("9199 1119 9199 9999", 1, 0);
        piecesDue("9199 1111 9199 9999", 1, 1);
        piecesDue("9199 1119 9199 9199", 1, 1);
        piecesDue("1199 9119 9911 1991", 1, 1);
        piecesDue("1999 9999 9999 1999", 1, 0);
        piecesDue("1991 9999 9999 9999", 1, 0);
        piecesDue("000 111 222", 3, 3);
        piecesDue("010 111 010", 2, 1);
        piecesDue("9099 0999", 2, 0);
        piecesDue("9099 9099", 1, 1);
        // Slants: the second comes to its start again in the print on both ways.
        piecesDue("09999 00999 90099 99009 99900", 1, 0);
        piecesDue("09990 00999 90099 99009 99900", 1, 1);
    }

    private static void piecesDue(String rows, int all, int running) {
        PaperRepeats x = paper(3, rows);
        due("pieces(false) of " + rows, x.pieces(false), all);
        due("pieces(true) of " + rows, x.pieces(true), running);
    }

    private static void piece() {
        promise = 39;
        PaperRepeats x = paper(3, "0110 0190 2220");
        int[] due = {5, 3, 3, 5, 5, 3, LATE, 5, 3, 3, 3, 5};
        for (int cell = 0; cell < 12; cell++) {
            due("piece(" + cell + ")", x.piece(cell), due[cell]);
        }
        due("piece(12)", x.piece(12), UNKNOWN);
        due("piece(-1)", x.piece(-1), UNKNOWN);
        due("piece(HIGHEST)", x.piece(HIGHEST), UNKNOWN);
        x.patch(6, 6);
        due("piece(35) of one colour", x.piece(35), 36);
        x.patch(1, 1);
        due("piece(0) of one cell", x.piece(0), 1);
        due("piece(0) of four by four apart", paper(2, "0101 1010").piece(0), 1);
    }

    private static void count() {
        promise = 40;
        PaperRepeats x = paper(4, "0039 9930");
        x.tell(1);
        x.tell(1);
        int[] due = {8, 4, 3, 2, 2};
        for (int what = 0; what < 5; what++) {
            due("count(" + what + ")", x.count(what), due[what]);
        }
        due("count(5)", x.count(5), BAD);
        due("count(-1)", x.count(-1), BAD);
        due("count(LOWEST)", x.count(LOWEST), BAD);
        due("count(HIGHEST)", x.count(HIGHEST), BAD);
        x = paper(4, "99");
        due("count(2), all hidden", x.count(2), 2);
        due("count(4), all hidden", x.count(4), 0);
        x.patch(6, 6);
        for (int cell = 0; cell < 36; cell++) {
            x.dye(cell, 9);
        }
        due("count(2), 36 hidden", x.count(2), 36);
        due("count(4), 36 hidden", x.count(4), 0);
        x = paper(4, "0123");
        due("count(4) of all", x.count(4), 4);
        due("count(2) of none", x.count(2), 0);
    }

    /** Every row is used to its end here. */
    private static void largestPatch() {
        promise = 0;
        PaperRepeats x = new PaperRepeats();
        x.patch(6, 6);
        x.colours(4);
        x.dye(35, 3);
        due("go(36)", x.go(36), 2);
        due("at(30)", x.at(30), 0);
        due("at(31)", x.at(31), 3);
        due("kind()", x.kind(), 10);
        due("least()", x.least(), 36);
        due("like()", x.like(), 36);
        due("first(35)", x.first(35), 3);
        due("toFirst()", x.toFirst(), 4);
        due("swaps()", x.swaps(), 8);
        due("by(1)", x.by(1), NONE);
        due("kept(8)", x.kept(8), 8);
        due("keeper(7)", x.keeper(7), 252);
        due("keeper(8)", x.keeper(8), NONE);
        due("pieces(false)", x.pieces(false), 2);
        due("pieces(true)", x.pieces(true), 1);
        due("piece(0)", x.piece(0), 35);
        due("tell(1)", x.tell(1), 1);
        due("tell(6)", x.tell(6), 2);
        due("tell(36)", x.tell(36), 3);
        due("tell(287)", x.tell(287), 4);
        due("together()", x.together(), 288);
        due("rings()", x.rings(), 1);
        due("ring(35)", x.ring(35), 0);
        due("torn()", x.torn(), 1);
        due("mend(true)", x.mend(true), 1);
        due("like() of one colour", x.like(), 1);
        due("pieces(true) of one colour", x.pieces(true), 1);
        due("piece(35) of one colour", x.piece(35), 36);
    }
}
