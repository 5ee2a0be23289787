/** Promises 33 to 39, and the terms of SHEETS and of what the machine finds. */
final class SheetsBounds {
    private static final int BAD = TenPledges.BAD, STATE = TenPledges.STATE, FULL = TenPledges.FULL,
            NONE = TenPledges.NONE;
    private static final int LEAST = Integer.MIN_VALUE, MOST = Integer.MAX_VALUE;
    // By lanes: values whose lowest bits are 1, what is above them not counting; and values of which
    // the highest bit that counts is set, or the one below, or all.
    private static final int[][] IS_ONE = {
        {1, 257, 513, -255, LEAST + 1}, {1, 65537, 131073, -65535, LEAST + 1}, {1}};
    private static final int[][] IS_NO_TEN = {
        {128, 129, 127, 65, 255, -1}, {32768, 32769, 32767, 257, 65535, -1},
        {LEAST, LEAST + 1, MOST, 257, 65537, -1}};

    private final Sentences s;

    SheetsBounds(Sentences s) {
        this.s = s;
    }

    void all() {
        rows();
        machineFaults();
        keep();
        keepBad();
        back();
        backRefused();
        sheet();
        sheetRefused();
        lay();
        layRefused();
        readTimes();
        readFrom();
        readAsByMove();
        readTorn();
        readBad();
        readRefused();
        readFirstMet();
        torn();
        counts();
        countBad();
    }

    /** A SHEET of just these CELLS. */
    private static Run lays(Run x, int k, int lane, int... values) {
        x.due("sheet(" + k + ", " + lane + ", " + values.length + ")", 1);
        for (int i = 0; i < values.length; i++) {
            x.due("lay(" + k + ", " + i + ", " + values[i] + ")", 1);
        }
        return x;
    }

    // ---- the terms

    private void rows() {
        Run x = s.ofTerms("SHEETS 0 to 3 are rows of BYTES (lane 0), SHORTS (1), INTS (2) with 0 to 40 "
                + "CELLS, or nothing (at first).").asks("count(6)", NONE);
        x.bad("sheet(?, 0, 1)", 0, 3).bad("sheet(0, ?, 1)", 0, 2).refuses("sheet(0, 0, 41)", BAD);
        for (int k = 0; k < 4; k++) {
            x.refuses("lay(" + k + ", 0, 1)", -11);
            for (int lane = 0; lane < 3; lane++) {
                x.due("sheet(" + k + ", " + lane + ", 0)", 1).refuses("lay(" + k + ", 0, 1)", -12);
                x.due("sheet(" + k + ", " + lane + ", 40)", 1).due("lay(" + k + ", 39, 1)", 1);
                x.refuses("lay(" + k + ", 40, 1)", -12);
            }
        }
        x.asks("count(6)", 40).due("sheet(0, 0, 0)", 1).asks("count(6)", 0);
    }

    private void machineFaults() {
        Run x = s.ofTerms("A FAULT is what the machine finds: 1 NULL (nothing), 2 INDEX, 3 CAST (another "
                + "lane), 4 SIZE (below 0).").told("calm0 0 0;");
        x.refuses("lay(0, 0, 0)", -11).due("read(0, 0, 0, 1)", 0).due("torn()", 1).due("sheet(0, 0, 2)", 1);
        x.refuses("lay(0, 2, 0)", -12).due("read(0, 0, 1, 1)", 0).due("torn()", 2);
        x.due("read(0, 1, 0, 1)", 0).due("torn()", 3).due("read(0, 2, 0, 1)", 0).due("torn()", 3);
        x.refuses("sheet(0, 0, -1)", -14).due("torn()", 3).due("read(0, 0, 0, 1)", 1).due("torn()", 0);
    }

    // ---- images

    private void keep() {
        Run x = s.of(33, "IMAGE k (0, 1) is MEN (all of them), KIN, who is watched, FINE, COST, YEAR, "
                + "what was SEEN: whether there was one (1, 0).")
                .told("calm1 50 0;quarrel2 60 1;saint3 3;wander4 70;kin0 1;");
        x.does("watch(2, true)", "year(0)", "see(0, 5)").due("keep(0)", 0).due("count(4)", 1);
        // Nothing of these changes reaches the IMAGE.
        x.does("move(0, 2)", "leave(1)", "move(3, 0)", "odd(3, 9)", "goods(0, 9)", "kin(0, 1, false)",
                "kin(2, 3, true)",
                "watch(2, false)", "law(0, 99)", "law(1, 9)", "year(0)", "forget(0)", "see(2, 7)",
                "see(3, 0)");
        x.due("keep(1)", 0).due("count(4)", 2).due("back(0)", 1).dueEach("rule(?)", 4, 12, 2, 1, 4, 8);
        long[][] wants = {{0, 1, 50, 0, 2, 1}, {1, 2, 60, 1, 1, 2}, {2, 0, 1, 3, 0, 0},
            {3, 4, 70, NONE, 0, 4}};
        for (int m = 0; m < 4; m++) {
            x.dueEach("man(" + m + ", ?)", wants[m]);
        }
        x.due("count(3)", 1).due("fits(0)", 0).due("back(1)", 2).dueEach("rule(?)", 4, 99, 9, 2, 0, 2);
        x.due("count(3)", 2).dueEach("man(?, 4)", 0, 0, 8, 4).due("keep(0)", 1).due("count(4)", 2);
        x.does("law(0, 1)").due("back(0)", 2).due("rule(1)", 99).due("keep(1)", 1);
        // What was SEEN are both the MEN and how much less: 1 ran, by the IMAGE; 3 did, by what is SEEN now.
        Run y = x.anew().told("calm0 50 0;calm0 50 0;calm0 50 1;calm0 50 1;");
        y.does("see(0, 12)", "see(1, 0)", "keep(0)", "forget(0)", "see(3, 0)", "see(2, 12)", "see(0, 0)");
        y.asks("fits(2)", 8).due("back(0)", 0).asks("fits(2)", 2).asks("fits(3)", 1).due("forget(1)", 2);
        y.asks("fits(2)", 2).asks("fits(3)", 0);
        // Nobody is an IMAGE, too.
        x.anew().due("keep(1)", 0).due("count(4)", 1).due("keep(1)", 1).due("back(1)", 0)
                .refuses("back(0)", STATE);
    }

    private void keepBad() {
        s.of(33, "BAD.").busy().bad("keep(?)", 0, 1).due("keep(0)", 1).anew().bad("keep(?)", 0, 1);
    }

    private void back() {
        Run x = s.of(34, "All is as IMAGE k: YEAR.").told("calm0 0 0;");
        x.due("keep(0)", 0);
        for (int year = 1; year <= 99; year++) {
            x.due("year(0)", 0);
        }
        x.due("keep(1)", 0).due("back(0)", 0).due("rule(3)", 0).due("back(1)", 99).due("rule(3)", 99);
        x.due("back(1)", 99).due("count(4)", 2).refuses("year(0)", FULL).due("back(0)", 0).due("year(0)", 0);
        // THE TAPE, SHEETS and what fault() and torn() answer are of no IMAGE.
        Run y = x.anew().busy();
        y.due("count(5)", 9).due("back(1)", 1).due("count(5)", 9).due("count(6)", 4).due("fault()", 2);
        y.due("torn()", 1).due("read(0, 0, 0, 2)", 2).due("text()", 1).refuses("back(1)", STATE);
    }

    private void backRefused() {
        s.of(34, "BAD;").busy().bad("back(?)", 0, 1).anew().bad("back(?)", 0, 1);
        Run x = s.of(34, "STATE: there is none.").refuses("back(0)", STATE).refuses("back(1)", STATE);
        x.told("calm1 2 3;").due("keep(0)", 0).refuses("back(1)", STATE).due("back(0)", 0).due("keep(1)", 0);
        x.due("back(1)", 0).refusesText("x", 2, 0).due("back(0)", 0).told("calm1 2 3;");
        x.refuses("back(0)", STATE).refuses("back(1)", STATE).due("keep(1)", 0).refuses("back(0)", STATE);
    }

    // ---- sheets

    private void sheet() {
        Run x = s.of(35, "A SHEET is a new row of CELLS 0: 1.").told("calm0 0 3;most0 1;");
        for (int lane = 0; lane < 3; lane++) {
            lays(x, 1, lane, 7, 7, 7).due("sheet(1, " + lane + ", 3)", 1);
            x.due("read(1, " + lane + ", 0, 1)", 1).due("man(0, 3)", 0).does("move(0, 3)");
            x.due("read(1, " + lane + ", 1, 1)", 1).due("man(0, 3)", 0).does("move(0, 3)");
        }
        x.due("sheet(0, 0, 0)", 1).due("count(6)", 0).due("sheet(0, 2, 40)", 1).due("count(6)", 40);
        x.due("sheet(0, 1, 1)", 1).due("count(6)", 1).due("read(0, 2, 0, 1)", 0).due("torn()", 3);
        // All of 40 CELLS are 0 again, behind a smaller one, too.
        x.due("sheet(0, 2, 40)", 1).due("lay(0, 39, 9)", 1).due("lay(0, 1, 9)", 1).due("sheet(0, 2, 1)", 1);
        x.due("sheet(0, 2, 40)", 1).due("read(0, 2, 0, 20)", 20).due("man(0, 3)", 0);
    }

    private void sheetRefused() {
        Run x = s.of(35, "BAD: also n above 40; -10 - 4.").busy();
        for (int lane = 0; lane < 3; lane++) {
            x.refuses("sheet(0, " + lane + ", 41)", BAD).refuses("sheet(0, " + lane + ", " + MOST + ")", BAD);
            x.refuses("sheet(0, " + lane + ", -1)", -14)
                    .refuses("sheet(3, " + lane + ", " + LEAST + ")", -14);
        }
        x.bad("sheet(?, 0, 40)", 0, 3).bad("sheet(3, ?, 0)", 0, 2).bad("sheet(?, 0, -1)", 0, 3);
        x.bad("sheet(0, ?, -1)", 0, 2).bad("sheet(0, ?, 41)", 0, 2).due("sheet(3, 2, 40)", 1);
    }

    private void lay() {
        Run x = s.of(36, "CELL i of a SHEET becomes v (its lowest bits): 1.");
        for (int lane = 0; lane < 3; lane++) {
            Run y = x.anew().told("calm0 0 0;wander0 0;").due("sheet(2, " + lane + ", 40)", 1);
            y.due("lay(2, 0, 1)", 1).due("lay(2, 1, 2)", 1).due("lay(2, 38, 1)", 1).due("lay(2, 39, 3)", 1);
            y.due("read(2, " + lane + ", 0, 1)", 1).due("man(1, 3)", 2);
            y.due("read(2, " + lane + ", 38, 1)", 1).due("man(1, 3)", 3);
            for (int v : IS_ONE[lane]) {
                y.does("move(1, 3)").due("lay(2, 1, " + v + ")", 1);
                y.due("read(2, " + lane + ", 0, 1)", 1).due("man(1, 3)", 1);
            }
            for (int v : IS_NO_TEN[lane]) {
                y.due("lay(2, 1, " + v + ")", 1).refuses("read(2, " + lane + ", 0, 1)", -20);
            }
        }
    }

    private void layRefused() {
        s.of(36, "BAD: k;").busy().bad("lay(?, 0, 1)", 0, 3).bad("lay(?, -1, 1)", 0, 3);
        Run x = s.of(36, "-10 less the FAULT: NULL, INDEX.").busy();
        for (int i : new int[] {LEAST, -1, 0, 39, 40, MOST}) {
            x.refuses("lay(3, " + i + ", 1)", -11).refuses("lay(2, " + i + ", 1)", -12);
        }
        for (int i : new int[] {LEAST, -1, 4, 39, 40, MOST}) {
            x.refuses("lay(0, " + i + ", 1)", -12);
        }
        x.refuses("lay(1, 3, 1)", -12).due("lay(1, 2, 1)", 1).due("lay(0, 3, 1)", 1).due("torn()", 1);
    }

    private void readTimes() {
        Run x = s.of(37, "n (0 to 20) times a MAN, a TEN are read of a SHEET taken as of a lane");
        for (int lane = 0; lane < 3; lane++) {
            Run y = x.anew().told("saint0 0;").due("sheet(0, " + lane + ", 40)", 1).due("lay(0, 39, 3)", 1);
            y.due("read(0, " + lane + ", 0, 0)", 0).due("torn()", 0).due("read(0, " + lane + ", 0, 1)", 1);
            y.due("read(0, " + lane + ", 0, 19)", 19).due("man(0, 3)", 0)
                    .due("read(0, " + lane + ", 0, 20)", 20);
            y.due("man(0, 3)", 3).due("torn()", 0);
            for (int other = 0; other < 3; other++) {
                y.due("read(0, " + other + ", 0, 1)", other == lane ? 1 : 0)
                        .due("torn()", other == lane ? 0 : 3);
            }
        }
        // None are read: nothing is refused, not even of nothing.
        x.due("read(3, 0, 0, 0)", 0).due("torn()", 0).due("read(3, 0, -1, 0)", 0).due("torn()", 0);
    }

    private void readFrom() {
        Run x = s.of(37, ", two CELLS each from CELL f on").told("saint0 0;saint0 1;saint0 2;");
        lays(x, 3, 2, 0, 1, 2, 0, 1, 3).due("read(3, 2, 0, 3)", 3).dueEach("man(?, 3)", 1, 3, 0);
        x.due("read(3, 2, 1, 1)", 1).dueEach("man(?, 3)", 1, 2, 0).due("read(3, 2, 4, 1)", 1);
        x.dueEach("man(?, 3)", 1, 3, 0).due("read(3, 2, 5, 1)", 0).due("torn()", 2);
        x.due("read(3, 2, 3, 2)", 1).due("torn()", 2).dueEach("man(?, 3)", 1, 3, 0);
        // f itself is never BAD: out of the row, and where what is behind it would wrap around.
        for (int f : new int[] {-1, -2, 6, 40, LEAST, LEAST + 1, MOST, MOST - 1, MOST - 2, -40}) {
            x.due("read(3, 2, " + f + ", 0)", 0).due("torn()", 0);
            x.due("read(3, 2, " + f + ", 20)", 0).due("torn()", 2).dueEach("man(?, 3)", 1, 3, 0);
        }
    }

    private void readAsByMove() {
        Run x = s.of(37, ", one behind another as by move(): how many came.");
        x.told("wander0 0;quarrel0 0 1;saint0 0;most0 1;most1 1;");
        // 1 goes first, which makes room for the wanderer, who is calm then; the saint stays in his own.
        lays(x, 0, 0, 1, 2, 0, 1, 2, 0).due("read(0, 0, 0, 3)", 3).dueEach("man(?, 3)", 1, 2, 0);
        x.dueEach("man(?, 0)", 0, 1, 2).due("read(0, 0, 0, 3)", 3).dueEach("man(?, 3)", 1, 2, 0);
        // One MAN more than once: the last one counts.
        lays(x, 1, 1, 1, 3, 1, 2, 1, 3).due("read(1, 1, 0, 3)", 3).dueEach("man(?, 3)", 1, 3, 0);
        x.due("torn()", 0);
    }

    private void readTorn() {
        Run x = s.of(37, "What the machine refuses: those that were whole ahead come (its FAULT is asked "
                + "by torn()).");
        x.told("saint0 0;saint0 0;saint0 0;");
        lays(x, 0, 0, 0, 1, 1, 2, 2).due("read(0, 0, 0, 3)", 2).due("torn()", 2)
                .dueEach("man(?, 3)", 1, 2, 0);
        lays(x, 0, 0, 0).due("read(0, 0, 0, 1)", 0).due("torn()", 2).due("sheet(0, 0, 0)", 1);
        x.due("read(0, 0, 0, 20)", 0).due("torn()", 2).due("read(1, 1, 0, 20)", 0).due("torn()", 1);
        x.due("sheet(1, 0, 39)", 1).due("read(1, 0, 0, 20)", 19).due("torn()", 2).due("man(0, 3)", 0);
        x.due("sheet(1, 0, 40)", 1).due("read(1, 0, 1, 20)", 19).due("torn()", 2)
                .due("read(1, 0, 2, 19)", 19);
        x.due("torn()", 0).due("read(1, 1, 0, 1)", 0).due("torn()", 3).due("read(1, 2, 99, 1)", 0)
                .due("torn()", 3);
        x.due("read(2, 0, 99, 1)", 0).due("torn()", 1).dueEach("man(?, 3)", 0, 2, 0);
    }

    private void readBad() {
        Run x = s.of(37, "BAD: k, lane, n;").busy().bad("read(?, 0, 0, 1)", 0, 3)
                .bad("read(0, ?, 0, 1)", 0, 2);
        x.bad("read(0, 0, 0, ?)", 0, 20).bad("read(3, 0, 0, ?)", 0, 20).bad("read(3, ?, 0, 0)", 0, 2);
        x.bad("read(?, 0, 0, 0)", 0, 3).refuses("read(0, 0, -1, 21)", BAD).due("torn()", 1);
    }

    private void readRefused() {
        Run x = s.of(37, "-20 less i: the i-th, whole, is refused by move() (in whichever way): then none "
                + "came;");
        String men = "saint0 0;saint0 0;saint0 0;saint0 1;wander0 0;";
        int[][] wrong = {{5, 2}, {-1, 2}, {0, 4}, {0, -1}, {3, 0}, {4, 0}, {127, 127}, {-128, -128}};
        for (int[] one : wrong) {
            Run y = x.anew().told(men);
            lays(y, 0, 0, one[0], one[1]).refuses("read(0, 0, 0, 1)", -20);
            // Two come ahead of it, the wanderer too, if it were not for the third.
            lays(y, 0, 0, 4, 2, 3, 3, one[0] == 4 || one[0] == 3 ? 9 : one[0], one[1]);
            y.refuses("read(0, 0, 0, 3)", -22).due("man(4, 0)", 3).due("man(3, 3)", 1);
            y.due("read(0, 0, 0, 2)", 2).due("man(4, 0)", 0).due("man(3, 3)", 3);
        }
        Run z = x.anew().told(men).due("sheet(1, 2, 40)", 1).due("lay(1, 38, 8)", 1);
        z.refuses("read(1, 2, 0, 20)", -39).due("lay(1, 38, 0)", 1).due("lay(1, 39, " + LEAST + ")", 1);
        z.refuses("read(1, 2, 0, 20)", -39).due("lay(1, 39, 1)", 1).due("read(1, 2, 0, 20)", 20);
        // By a move ahead the third TEN is full: his own it is no more, or it is another's.
        Run w = x.anew().told(men + "most2 1;");
        lays(w, 2, 1, 0, 2, 1, 2).refuses("read(2, 1, 0, 2)", -21);
        lays(w, 2, 1, 0, 2, 3, 0, 0, 0).refuses("read(2, 1, 0, 3)", -22).due("read(2, 1, 0, 2)", 2);
    }

    private void readFirstMet() {
        Run x = s.of(37, "the first met.").told("saint0 0;saint0 0;");
        // Of two that are refused the first one; ahead of a FAULT it is met first, behind it never.
        lays(x, 0, 0, 0, 1, 9, 0, 0, 9, 0).refuses("read(0, 0, 0, 3)", -21).refuses("read(0, 0, 0, 4)", -21);
        x.refuses("read(0, 0, 2, 20)", -20).refuses("read(0, 0, 4, 20)", -20).due("read(0, 0, 0, 1)", 1);
        lays(x, 0, 0, 1, 3, 9).due("read(0, 0, 0, 2)", 1).due("torn()", 2).dueEach("man(?, 3)", 1, 3);
        lays(x, 0, 0, 9, 9).due("read(0, 1, 0, 1)", 0).due("torn()", 3).due("read(0, 0, -1, 1)", 0);
        x.due("torn()", 2);
    }

    private void torn() {
        Run x = s.of(38, "The FAULT of the latest read() that came to an end; 0.").asks("torn()", 0)
                .told("saint0 0;");
        lays(x, 0, 0, 0, 1, 0).due("read(0, 0, 0, 1)", 1).due("torn()", 0).due("read(0, 0, 0, 2)", 1);
        x.asks("torn()", 2).refuses("read(4, 0, 0, 1)", BAD).refuses("read(0, 3, 0, 1)", BAD);
        // What is refused changes nothing: read() came to no end then.
        x.refuses("read(0, 0, 0, 21)", BAD).due("lay(0, 1, 9)", 1).refuses("read(0, 0, 0, 2)", -20);
        x.due("torn()", 2).refuses("lay(3, 0, 0)", -11).refuses("sheet(0, 0, -1)", -14).due("torn()", 2);
        x.due("sheet(0, 0, 2)", 1).due("torn()", 2).told("saint0 0;").due("torn()", 2)
                .due("read(0, 0, 0, 1)", 1);
        x.due("torn()", 0).due("read(1, 0, 0, 1)", 0).due("torn()", 1).due("read(0, 0, 0, 0)", 0)
                .due("torn()", 0);
    }

    // ---- counts

    private void counts() {
        Run x = s.of(39, "How many: 0 MEN in TENS, 1 TENS with men, 2 all GOODS, 3 SEEN, 4 IMAGES, 5 "
                + "bytes on THE TAPE, 6 CELLS of SHEET 0 (NONE: nothing).");
        x.dueEach("count(?)", 0, 0, 0, 0, 0, 0, NONE);
        x.told("saint99 0;saint99 1;saint99 2;saint99 3;saint99 0;saint99 1;saint99 2;saint99 3;");
        x.dueEach("count(?)", 8, 4, 792, 0, 0, 0, NONE).does("leave(7)").dueEach("count(?)", 7, 4, 792);
        x.does("leave(3)").dueEach("count(?)", 6, 3, 792).does("goods(3, 0)").due("count(2)", 693);
        x.does("see(0, 0)", "see(0, 0)", "see(0, 0)", "see(0, 0)", "see(0, 0)", "see(0, 0)")
                .due("count(3)", 6);
        x.does("keep(1)").due("count(4)", 1).does("keep(0)", "keep(0)").due("count(4)", 2);
        x.feeds(" ".repeat(160)).due("count(5)", 160).does("sheet(1, 0, 9)").due("count(6)", NONE);
        x.does("sheet(0, 0, 0)").due("count(6)", 0).does("sheet(0, 2, 40)").due("count(6)", 40);
        x.dueEach("count(?)", 6, 3, 693, 6, 2, 160, 40).due("text()", 0)
                .dueEach("count(?)", 0, 0, 0, 0, 0, 0, 40);
        Run y = x.anew().told("wander0 9;wander0 9;").dueEach("count(?)", 0, 0, 18).does("keep(0)");
        y.due("count(4)", 1);
    }

    private void countBad() {
        s.of(39, "BAD.").busy().bad("count(?)", 0, 6).anew().bad("count(?)", 0, 6);
    }
}
