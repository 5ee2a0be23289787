/** Promises 9 to 16: what is changed. */
final class ChangesBounds {
    private static final int BAD = TenPledges.BAD, STATE = TenPledges.STATE, FULL = TenPledges.FULL,
            NONE = TenPledges.NONE;

    private final Sentences s;

    ChangesBounds(Sentences s) {
        this.s = s;
    }

    void all() {
        moveToTens();
        moveOfWanderers();
        moveBad();
        moveFull();
        leave();
        leaveRefused();
        swap();
        swapBad();
        swapState();
        watch();
        watchRefused();
        kin();
        kinBad();
        odd();
        oddRefused();
        law();
        lawBad();
        goods();
        goodsBad();
    }

    private void moveToTens() {
        Run x = s.of(9, "A MAN goes to a TEN (its own, too): in which he was");
        x.told("calm1 2 0;quarrel3 4 0;saint5 3;most0 2;most3 1;").does("watch(1, true)", "kin(1, 2, true)");
        // To their own, which have MOST: they are in as before, in the end.
        x.asks("move(0, 0)", 0).asks("move(1, 0)", 0).asks("move(2, 3)", 3);
        x.due("move(1, 1)", 0).due("move(1, 2)", 1).due("move(0, 3)", FULL).due("move(2, 0)", 3);
        x.due("move(0, 3)", 0).dueEach("ten(?, 0)", 4, 0, 2, 1);
        // All else of him is as before.
        x.dueEach("man(1, ?)", 1, 3, 4, 2, 4, 1).due("rule(4)", 2).due("rule(3)", 0);
    }

    private void moveOfWanderers() {
        Run x = s.of(9, "(NONE: a wanderer, who is calm then)");
        x.told("wander9 99;quarrel8 7 1;saint6 1;").due("move(0, 3)", NONE);
        x.dueEach("man(0, ?)", 0, 9, 99, 3, 0, 9).due("rule(5)", 0).due("rule(4)", 0);
        x.due("move(0, 0)", 3).due("man(0, 0)", 0);
        x.does("leave(1)", "leave(2)").due("move(1, 1)", NONE).due("move(2, 1)", NONE);
        x.dueEach("man(1, ?)", 0, 8, 7, 1).dueEach("man(2, ?)", 0, 0, 6, 1).due("odd(2, 9)", 0);
    }

    private void moveBad() {
        Run x = s.of(9, "BAD;").busy().bad("move(?, 3)", 0, 5).bad("move(?, 0)", 0, 5);
        x.bad("move(0, ?)", 0, 3).bad("move(4, ?)", 0, 3).refuses("move(6, 4)", BAD);
        x.due("move(5, 3)", 2).due("move(0, 2)", 0);
    }

    private void moveFull() {
        Run x = s.of(9, "FULL: it has MOST.").busy().refuses("move(2, 0)", FULL).refuses("move(4, 0)", FULL);
        x.due("move(4, 3)", NONE).refuses("move(5, 3)", FULL).refuses("move(0, 3)", FULL);
        String men = "saint1 0;saint2 0;saint3 0;saint4 1;saint5 1;saint6 2;wander7 8;";
        Run y = x.anew().told(men).refuses("move(3, 0)", FULL).refuses("move(6, 0)", FULL);
        y.due("move(0, 0)", 0).due("move(0, 1)", 0).refuses("move(5, 1)", FULL).due("move(5, 0)", 2);
        Run z = x.anew().told(men + "most0 5;").due("move(3, 0)", 1).due("move(6, 0)", NONE);
        z.refuses("move(4, 0)", FULL).refuses("move(5, 0)", FULL).due("leave(1)", 0).due("move(4, 0)", 1);
        z.refuses("move(1, 0)", FULL).asks("ten(0, 0)", 93);
    }

    private void leave() {
        Run x = s.of(10, "A MAN becomes a wanderer (of that KIND, watched no more): in which TEN he was.");
        x.told("calm1 10 0;quarrel2 20 3;saint30 1;kin0 1;most3 1;");
        x.does("watch(0, true)", "watch(1, true)", "watch(2, true)");
        x.due("leave(0)", 0).due("rule(4)", 6).due("leave(1)", 3).due("rule(4)", 4).due("leave(2)", 1);
        x.due("rule(4)", 0).due("rule(5)", 7).dueEach("ten(?, 0)", 0, 0, 0, 0).due("count(0)", 0);
        long[][] wants = {{3, 1, 10, NONE, 2, 1}, {3, 2, 20, NONE, 1, 2}, {3, 0, 30, NONE, 0, 0}};
        for (int m = 0; m < 3; m++) {
            x.dueEach("man(" + m + ", ?)", wants[m]);
        }
        // His place is free again; he comes back, not watched.
        x.due("move(0, 3)", NONE).due("rule(4)", 0).due("odd(2, 9)", 0);
    }

    private void leaveRefused() {
        s.of(10, "BAD;").busy().bad("leave(?)", 0, 5).due("leave(0)", 0).due("leave(5)", 2);
        Run x = s.of(10, "STATE: he is one.").busy().refuses("leave(4)", STATE).due("leave(3)", 1);
        x.refuses("leave(3)", STATE).due("move(3, 1)", NONE).due("leave(3)", 1);
    }

    private void swap() {
        Run x = s.of(11, "Two MEN of unlike TENS change them: the TEN of the first one then.");
        x.told("calm1 10 0;quarrel2 20 3;saint30 1;most0 1;most1 1;most3 1;").does("watch(0, true)");
        // All three TENS have MOST, before and behind.
        x.due("swap(0, 1)", 3).dueEach("man(?, 3)", 3, 0, 1).due("swap(0, 2)", 1);
        x.dueEach("man(?, 3)", 1, 0, 3).due("swap(2, 1)", 0).dueEach("man(?, 3)", 1, 3, 0);
        x.due("rule(4)", 1).dueEach("man(?, 0)", 0, 1, 2).dueEach("man(?, 2)", 10, 20, 30);
    }

    private void swapBad() {
        Run x = s.of(11, "BAD (also alike);").busy().bad("swap(?, 0)", 0, 5).bad("swap(0, ?)", 0, 5);
        for (int m = 0; m < 6; m++) {
            x.refuses("swap(" + m + ", " + m + ")", BAD);
        }
        x.refuses("swap(6, 6)", BAD).refuses("swap(-1, -1)", BAD).bad("swap(4, ?)", 0, 5);
        x.due("swap(5, 0)", 0).due("swap(0, 5)", 0);
    }

    private void swapState() {
        Run x = s.of(11, "STATE: one is a wanderer, they are of one TEN.").busy();
        x.refuses("swap(0, 4)", STATE).refuses("swap(4, 0)", STATE).refuses("swap(4, 5)", STATE);
        x.refuses("swap(0, 1)", STATE).refuses("swap(1, 0)", STATE).refuses("swap(3, 2)", STATE);
        x.does("leave(5)").refuses("swap(4, 5)", STATE).refuses("swap(5, 4)", STATE);
        x.refuses("swap(5, 2)", STATE).refuses("swap(2, 5)", STATE);
    }

    private void watch() {
        Run x = s.of(12, "A MAN is watched, or not: whether he was.");
        x.told("calm9 9 0;saint9 3;quarrel9 9 3;");
        x.asks("watch(0, false)", 0).due("watch(0, true)", 0).asks("watch(0, true)", 1);
        x.due("watch(1, true)", 0).due("watch(2, true)", 0).due("rule(4)", 7).due("watch(1, false)", 1);
        x.asks("watch(1, false)", 0).due("rule(4)", 5).due("watch(0, false)", 1).due("rule(4)", 4);
    }

    private void watchRefused() {
        Run x = s.of(12, "BAD;").busy().bad("watch(?, true)", 0, 5).bad("watch(?, false)", 0, 5);
        x.due("watch(0, true)", 1).due("watch(5, true)", 0);
        Run y = s.of(12, "STATE: a wanderer.").busy();
        y.refuses("watch(4, true)", STATE).refuses("watch(4, false)", STATE).does("leave(0)");
        y.refuses("watch(0, true)", STATE).does("move(0, 1)").due("watch(0, true)", 0);
    }

    private void kin() {
        Run x = s.of(13, "Two MEN are KIN, or not: whether they were.");
        x.told("calm9 9 0;saint9 3;wander9 9;wander9 9;");
        x.asks("kin(0, 3, false)", 0).due("kin(3, 0, true)", 0).asks("kin(0, 3, true)", 1);
        x.due("kin(2, 3, true)", 0).dueEach("man(?, 4)", 8, 0, 8, 5).due("kin(0, 3, false)", 1);
        x.asks("kin(3, 0, false)", 0).dueEach("man(?, 4)", 0, 0, 8, 4);
    }

    private void kinBad() {
        Run x = s.of(13, "BAD (also alike).").busy();
        x.bad("kin(?, 0, true)", 0, 5).bad("kin(0, ?, true)", 0, 5).bad("kin(?, 5, false)", 0, 5);
        x.bad("kin(4, ?, false)", 0, 5);
        for (int m = 0; m < 6; m++) {
            x.refuses("kin(" + m + ", " + m + ", true)", BAD);
        }
        x.refuses("kin(6, 6, true)", BAD).refuses("kin(0, 0, false)", BAD).due("kin(5, 0, true)", 0);
    }

    private void odd() {
        Run x = s.of(14, "ODDS of a MAN become v: what they were.");
        x.told("calm9 9 0;quarrel1 9 3;wander2 9;");
        x.due("odd(0, 0)", 9).due("odd(0, 9)", 0).asks("odd(0, 9)", 9).due("odd(1, 9)", 1);
        x.due("odd(2, 0)", 2).dueEach("man(?, 1)", 9, 9, 0).due("odd(2, 9)", 0);
        // The ODDS themselves, not those IN A TEN.
        x.does("watch(0, true)").due("odd(0, 7)", 9).due("man(0, 5)", 3);
    }

    private void oddRefused() {
        Run x = s.of(14, "BAD;").busy().bad("odd(?, 1)", 0, 5).bad("odd(0, ?)", 0, 9);
        x.bad("odd(3, ?)", 0, 9).refuses("odd(6, 10)", BAD).due("odd(5, 9)", 7).due("odd(0, 0)", 4);
        Run y = s.of(14, "STATE: a saint.").busy().refuses("odd(3, 0)", STATE).refuses("odd(3, 9)", STATE);
        y.does("leave(3)").due("odd(3, 9)", 0);
    }

    private void law() {
        Run x = s.of(15, "FINE (what 0), COST (1) becomes v: what it was.");
        x.due("law(0, 0)", 12).due("law(0, 99)", 0).asks("law(0, 99)", 99).due("rule(2)", 2);
        x.due("law(1, 0)", 2).due("law(1, 9)", 0).asks("law(1, 9)", 9).due("rule(1)", 99);
    }

    private void lawBad() {
        Run x = s.of(15, "BAD.").busy().bad("law(?, 0)", 0, 1).bad("law(?, 9)", 0, 1);
        x.bad("law(0, ?)", 0, 99).bad("law(1, ?)", 0, 9).refuses("law(1, 99)", BAD);
        x.refuses("law(2, -1)", BAD).due("law(0, 10)", 11);
    }

    private void goods() {
        Run x = s.of(16, "GOODS of a MAN become v: what they were.");
        x.told("calm9 9 0;saint8 3;wander2 7;").due("goods(0, 0)", 9).due("goods(0, 99)", 0);
        x.asks("goods(0, 99)", 99).due("goods(1, 0)", 8).due("goods(2, 99)", 7);
        x.dueEach("man(?, 2)", 99, 0, 99).due("count(2)", 198);
    }

    private void goodsBad() {
        Run x = s.of(16, "BAD.").busy().bad("goods(?, 1)", 0, 5).bad("goods(0, ?)", 0, 99);
        x.bad("goods(5, ?)", 0, 99).refuses("goods(6, 100)", BAD).due("goods(5, 1)", 25);
    }
}
