/** Promises 33 to 39: images, sheets, counts. */
public final class ImagesSheetsTest {
    private static final int BAD = TenPledges.BAD, STATE = TenPledges.STATE, NONE = TenPledges.NONE;
    private static final Check c = new Check();

    public static void main(String[] args) {
        images();
        imagesOfSeen();
        sheets();
        lanes();
        reading();
        machineFaults();
        refusedMoves();
        readsToOwnTens();
        counts();
        c.finish();
    }

    private static void images() {
        TenPledges x = c.told("calm 1 50 0;quarrel 2 60 1;wander 3 70;kin 0 1;");
        c.due("33 keep(-1)", x.keep(-1), BAD);
        c.due("33 keep(2)", x.keep(2), BAD);
        c.due("34 back(-1)", x.back(-1), BAD);
        c.due("34 back(2)", x.back(2), BAD);
        c.due("34 back(0)", x.back(0), STATE);
        x.watch(0, true);
        x.see(1, 5);
        x.year(0);
        c.due("33 keep(0)", x.keep(0), 0);
        c.due("34 back(1)", x.back(1), STATE);
        x.leave(1);
        x.move(2, 3);
        x.odd(0, 9);
        x.goods(0, 9);
        x.kin(0, 1, false);
        x.kin(0, 2, true);
        x.watch(0, false);
        x.law(0, 1);
        x.law(1, 1);
        x.year(0);
        x.see(0, 1);
        c.due("33 keep(1)", x.keep(1), 0);
        c.due("34 back(0): YEAR", x.back(0), 1);
        int[][] due = {{0, 1, 48, 0, 2}, {1, 2, 60, 1, 1}, {3, 3, 70, NONE, 0}};
        for (int m = 0; m < 3; m++) {
            for (int what = 0; what < 5; what++) {
                c.due("34 man(" + m + ", " + what + ")", x.man(m, what), due[m][what]);
            }
        }
        c.due("34 rule(1)", x.rule(1), 12);
        c.due("34 rule(2)", x.rule(2), 2);
        c.due("34 rule(3)", x.rule(3), 1);
        c.due("34 rule(4)", x.rule(4), 1);
        c.due("34 count(3)", x.count(3), 1);
        c.due("34 back(0) again", x.back(0), 1);
        c.due("34 back(1)", x.back(1), 2);
        c.due("34 rule(1)", x.rule(1), 1);
        c.due("34 man(0, 4)", x.man(0, 4), 4);
        c.due("34 count(3)", x.count(3), 2);
        c.due("33 keep(0) in place of one", x.keep(0), 1);
        x.law(0, 5);
        x.back(0);
        c.due("34 rule(1)", x.rule(1), 1);
    }

    private static void imagesOfSeen() {
        TenPledges x = c.told("calm 1 50 0;calm 1 50 0;calm 1 50 1;calm 1 50 1;");
        x.see(0, 12);
        x.keep(0);
        x.forget(0);
        x.see(3, 0);
        x.see(2, 12);
        c.due("34 fits(1) ahead", x.fits(1), 8);
        x.back(0);
        c.due("34 fits(1): the MAN and how much less", x.fits(1), 2);
        c.due("34 fits(0)", x.fits(0), 8);
    }

    private static void sheets() {
        TenPledges x = new TenPledges();
        c.due("35 sheet(-1, 0, 1)", x.sheet(-1, 0, 1), BAD);
        c.due("35 sheet(4, 0, 1)", x.sheet(4, 0, 1), BAD);
        c.due("35 sheet(0, -1, 1)", x.sheet(0, -1, 1), BAD);
        c.due("35 sheet(0, 3, 1)", x.sheet(0, 3, 1), BAD);
        c.due("35 sheet(0, 0, 41)", x.sheet(0, 0, 41), BAD);
        c.due("35 sheet(4, 0, -1)", x.sheet(4, 0, -1), BAD);
        c.due("35 sheet(0, 3, -1)", x.sheet(0, 3, -1), BAD);
        c.due("35 sheet(0, 0, -1)", x.sheet(0, 0, -1), -14);
        c.due("35 count(6): nothing still", x.count(6), NONE);
        c.due("35 torn(): of no read()", x.torn(), 0);
        c.due("35 sheet(0, 0, 40)", x.sheet(0, 0, 40), 1);
        c.due("35 sheet(0, 0, least)", x.sheet(0, 0, Integer.MIN_VALUE), -14);
        c.due("35 count(6)", x.count(6), 40);
        c.due("35 sheet(0, 2, 0)", x.sheet(0, 2, 0), 1);
        c.due("35 count(6)", x.count(6), 0);
        c.due("36 lay(0, 0, 0): no CELLS", x.lay(0, 0, 0), -12);
        c.due("36 lay(-1, 0, 0)", x.lay(-1, 0, 0), BAD);
        c.due("36 lay(4, 0, 0)", x.lay(4, 0, 0), BAD);
        c.due("36 lay(3, 0, 0)", x.lay(3, 0, 0), -11);
        c.due("36 lay(3, -1, 0)", x.lay(3, -1, 0), -11);
        x.sheet(3, 1, 5);
        c.due("36 lay(3, -1, 0)", x.lay(3, -1, 0), -12);
        c.due("36 lay(3, 5, 0)", x.lay(3, 5, 0), -12);
        c.due("36 lay(3, 4, 0)", x.lay(3, 4, 0), 1);
        c.due("36 lay(3, 0, most)", x.lay(3, 0, Integer.MAX_VALUE), 1);
    }

    /** CELLS keep the lowest bits of their lane, as a move to a TEN shows. */
    private static void lanes() {
        int[][] cells = {{0, 256 + 2}, {0, 128 + 2}, {1, 65536 + 2}, {1, 256 + 2}, {2, 65536 + 2},
            {2, 2}, {0, -254}, {1, -65534}};
        int[] came = {1, -20, 1, -20, -20, 1, 1, 1};
        for (int i = 0; i < cells.length; i++) {
            TenPledges x = c.told("calm 1 1 0;");
            x.sheet(1, cells[i][0], 2);
            x.lay(1, 1, cells[i][1]);
            String call = "36 lane " + cells[i][0] + " of " + cells[i][1];
            c.due(call, x.read(1, cells[i][0], 0, 1), came[i]);
            c.due(call, x.man(0, 3), came[i] == 1 ? 2 : 0);
        }
        TenPledges x = c.told("calm 1 1 3;");
        x.sheet(1, 2, 2);
        x.lay(1, 0, 7);
        x.sheet(1, 2, 2);
        c.due("35 a new row is of CELLS 0", x.read(1, 2, 0, 1), 1);
        c.due("35 man(0, 3)", x.man(0, 3), 0);
    }

    private static TenPledges withSheet() {
        TenPledges x = c.told("calm 1 1 0;calm 1 1 0;wander 1 1;most 3 1;most 1 1;");
        int[] cells = {9, 0, 1, 1, 2, 2, 2};
        x.sheet(2, 1, 7);
        for (int i = 0; i < cells.length; i++) {
            x.lay(2, i, cells[i]);
        }
        return x;
    }

    private static void reading() {
        TenPledges x = withSheet();
        c.due("37 read(-1, 1, 1, 1)", x.read(-1, 1, 1, 1), BAD);
        c.due("37 read(4, 1, 1, 1)", x.read(4, 1, 1, 1), BAD);
        c.due("37 read(2, -1, 1, 1)", x.read(2, -1, 1, 1), BAD);
        c.due("37 read(2, 3, 1, 1)", x.read(2, 3, 1, 1), BAD);
        c.due("37 read(2, 1, 1, -1)", x.read(2, 1, 1, -1), BAD);
        c.due("37 read(2, 1, 1, 21)", x.read(2, 1, 1, 21), BAD);
        c.due("37 read(2, 1, 1, 0)", x.read(2, 1, 1, 0), 0);
        c.due("37 ten(0, 0): none came", x.ten(0, 0), 3);
        c.due("37 read(2, 1, 1, 2)", x.read(2, 1, 1, 2), 2);
        c.due("37 man(0, 3)", x.man(0, 3), 1);
        c.due("37 man(1, 3): of the second two CELLS", x.man(1, 3), 2);
        c.due("37 ten(1, 0)", x.ten(1, 0), 1);
        c.due("37 torn()", x.torn(), 0);
        c.due("37 read(2, 1, 3, 2)", x.read(2, 1, 3, 2), 2);
        c.due("37 man(1, 3)", x.man(1, 3), 2);
        c.due("37 man(2, 0): a wanderer who came is calm", x.man(2, 0), 0);
        c.due("37 man(2, 3)", x.man(2, 3), 2);
    }

    private static void machineFaults() {
        TenPledges x = withSheet();
        c.due("37 read(2, 1, 1, 20): INDEX behind three", x.read(2, 1, 1, 20), 3);
        c.due("38 torn()", x.torn(), 2);
        c.due("37 ten(2, 0): those whole came", x.ten(2, 0), 6);
        c.due("38 torn(), asked again", x.torn(), 2);
        c.due("37 read(2, 1, 6, 1): half", x.read(2, 1, 6, 1), 0);
        c.due("38 torn()", x.torn(), 2);
        c.due("37 read(2, 1, 1, 0)", x.read(2, 1, 1, 0), 0);
        c.due("38 torn() of none", x.torn(), 0);
        int[] places = {-1, -2, 7, 41, Integer.MAX_VALUE, Integer.MIN_VALUE};
        for (int f : places) {
            x.read(2, 1, 1, 0);
            c.due("37 read(2, 1, " + f + ", 20)", x.read(2, 1, f, 20), 0);
            c.due("38 torn()", x.torn(), 2);
        }
        c.due("37 read(2, 0, 1, 1)", x.read(2, 0, 1, 1), 0);
        c.due("38 torn(): CAST", x.torn(), 3);
        c.due("37 read(2, 2, 99, 1)", x.read(2, 2, 99, 1), 0);
        c.due("38 torn(): CAST before INDEX", x.torn(), 3);
        c.due("37 read(0, 2, 99, 1)", x.read(0, 2, 99, 1), 0);
        c.due("38 torn(): NULL before INDEX", x.torn(), 1);
        c.due("37 read(0, 3, 0, 1)", x.read(0, 3, 0, 1), BAD);
        c.due("38 torn(): BAD is no end of it", x.torn(), 1);
        c.due("36 lay(2, 99, 0)", x.lay(2, 99, 0), -12);
        c.due("38 torn(): of read() alone", x.torn(), 1);
    }

    private static void refusedMoves() {
        TenPledges x = withSheet();
        x.read(0, 0, 0, 1);
        c.due("37 read(2, 1, 0, 1): no such MAN", x.read(2, 1, 0, 1), -20);
        c.due("38 torn(): that came to no end", x.torn(), 1);
        x.lay(2, 4, 4);
        c.due("37 read(2, 1, 1, 2): no such TEN", x.read(2, 1, 1, 2), -21);
        c.due("37 man(0, 3): none came", x.man(0, 3), 0);
        x = withSheet();
        x.lay(2, 6, 1);
        c.due("37 read(2, 1, 1, 20): the third one, FULL", x.read(2, 1, 1, 20), -22);
        c.due("37 ten(0, 0): none came", x.ten(0, 0), 3);
        c.due("37 ten(2, 0): none came", x.ten(2, 0), 0);
        c.due("37 man(2, 0): a wanderer still", x.man(2, 0), 3);
        c.due("38 torn()", x.torn(), 0);
        x.lay(2, 5, 2);
        x.lay(2, 4, 1);
        x.lay(2, 3, 2);
        x.lay(2, 6, 7);
        c.due("37 read(2, 1, 1, 3): 2 to 1 behind 0, which has MOST", x.read(2, 1, 1, 3), -21);
        c.due("37 man(2, 0): a wanderer still", x.man(2, 0), 3);
        TenPledges y = c.told("wander 1 1;calm 1 1 1;most 1 1;");
        y.sheet(0, 0, 6);
        int[] cells = {0, 0, 1, 2, 0, 1};
        for (int i = 0; i < 6; i++) {
            y.lay(0, i, cells[i]);
        }
        c.due("37 one behind another: room is made first", y.read(0, 0, 0, 3), 3);
        c.due("37 man(0, 3)", y.man(0, 3), 1);
        c.due("37 man(1, 3)", y.man(1, 3), 2);
    }

    private static void readsToOwnTens() {
        TenPledges x = c.told("calm 1 1 0;quarrel 1 1 0;wander 1 1;saint 1 1;most 0 2;most 1 1;");
        x.sheet(3, 2, 8);
        int[] cells = {0, 0, 1, 0, 3, 1, 2, 0};
        for (int i = 0; i < 8; i++) {
            x.lay(3, i, cells[i]);
        }
        c.due("37 read(3, 2, 0, 3): their own, which have MOST", x.read(3, 2, 0, 3), 3);
        c.due("37 ten(0, 0): as it was", x.ten(0, 0), 3);
        c.due("37 ten(1, 0): as it was", x.ten(1, 0), 8);
        c.due("37 read(3, 2, 0, 4): the wanderer's it is not", x.read(3, 2, 0, 4), -23);
        x.lay(3, 0, 3);
        c.due("37 read(3, 2, 0, 3): not his own, FULL", x.read(3, 2, 0, 3), -20);
        x.lay(3, 0, 1);
        x.lay(3, 1, 2);
        c.due("37 read(3, 2, 0, 2): he left, and comes back", x.read(3, 2, 0, 2), 2);
        c.due("37 man(1, 3)", x.man(1, 3), 0);
        x.lay(3, 2, 2);
        x.lay(3, 4, 1);
        x.lay(3, 5, 0);
        c.due("37 read(3, 2, 0, 3): his own no more", x.read(3, 2, 0, 3), -22);
        c.due("37 man(1, 3): none came", x.man(1, 3), 0);
    }

    private static void counts() {
        TenPledges x = c.told("calm 1 10 0;calm 1 20 2;saint 30 2;wander 1 39;");
        c.due("39 count(-1)", x.count(-1), BAD);
        c.due("39 count(7)", x.count(7), BAD);
        c.due("39 count(0)", x.count(0), 3);
        c.due("39 count(1)", x.count(1), 2);
        c.due("39 count(2)", x.count(2), 99);
        c.due("39 count(3)", x.count(3), 0);
        x.see(0, 1);
        c.due("39 count(3)", x.count(3), 1);
        c.due("39 count(4)", x.count(4), 0);
        x.keep(1);
        c.due("39 count(4)", x.count(4), 1);
        x.keep(0);
        c.due("39 count(4)", x.count(4), 2);
        x.keep(0);
        c.due("39 count(4)", x.count(4), 2);
        x.feed(65);
        c.due("39 count(5)", x.count(5), 1);
        c.due("39 count(6)", x.count(6), NONE);
        x.sheet(1, 0, 3);
        c.due("39 count(6)", x.count(6), NONE);
        x.sheet(0, 0, 3);
        c.due("39 count(6)", x.count(6), 3);
    }
}
