/** Promises 22 to 28, and the term of a PUTTING: who is put where, and what to do with a bad one. */
final class PlacesBounds {
    private static final int BAD = TenPledges.BAD, STATE = TenPledges.STATE, NONE = TenPledges.NONE;

    private final Sentences s;

    PlacesBounds(Sentences s) {
        this.s = s;
    }

    void all() {
        putting();
        best();
        bestFirst();
        bestOfMen();
        bestBad();
        changeLeast();
        changePairs();
        changeRefused();
        takesBound();
        takesAsThere();
        takesLeast();
        takesRefused();
        weight();
        weightRefused();
        should();
        shouldRefused();
        guard();
        guardFewest();
        guardBad();
        worth();
        worthRefused();
    }

    // ---- who is put where

    private void putting() {
        Run x = s.ofTerms("A PUTTING: all MEN who are in TENS are in TENS, none of more than MOST; "
                + "watched as they are.");
        // With FINE 0 all are alike: TENS fill up by numbers, each to MOST, and the wanderer stays one.
        x.told("saint0 3;saint0 3;saint0 2;wander9 0;saint0 2;saint0 2;saint0 2;saint0 2;fine0;most0 2;"
                + "most1 1;most2 5;most3 2;");
        x.dueEach("best(1?)", 0, 0, 1, NONE, 2, 2, 2, 2).asks("best(0)", 0);
        // No place to spare.
        Run y = x.anew().told("quarrel1 0 3;quarrel1 0 2;quarrel1 0 1;quarrel1 0 0;most0 1;most1 1;most2 1;"
                + "most3 1;");
        y.dueEach("best(1?)", 0, 1, 2, 3).asks("best(0)", 48);
        // Watched ones are no worse by one another here (1 by 2), so they may stay together.
        Run z = x.anew().told("quarrel0 0 0;quarrel0 0 1;quarrel0 0 2;most0 2;most1 1;most2 1;most3 1;"
                + "watch3;");
        z.dueEach("best(1?)", 0, 1, 2).asks("best(0)", 0).does("watch(0, true)", "watch(1, true)");
        z.dueEach("best(1?)", 0, 0, 1).asks("best(0)", 60);
    }

    private void best() {
        Run x = s.of(22, "The PUTTING by which HARM OF ALL is least").asks("best(0)", 0);
        String eight = "quarrel0 0 0;quarrel0 0 0;quarrel0 0 0;quarrel0 0 1;quarrel0 0 1;quarrel0 0 1;"
                + "quarrel0 0 2;quarrel0 0 2;";
        x.told(eight).asks("harm()", 14 * 12).asks("best(0)", 8 * 12);
        x.dueEach("best(1?)", 0, 0, 1, 1, 2, 2, 3, 3).dueEach("best(?)", 96, BAD, BAD, BAD);
        // Three have 9 without any other: together they are no worse, and the others are by themselves.
        Run y = x.anew().told("quarrel1 0 0;quarrel9 0 0;quarrel9 0 0;quarrel1 0 1;quarrel9 0 1;quarrel1 0 1;"
                + "wander2 0;").asks("harm()", (3 + 9 + 9 + 3 + 9 + 3 + 2) * 12);
        y.dueEach("best(1?)", 0, 1, 1, 2, 1, 3, NONE).asks("best(0)", (27 + 3 + 2) * 12);
    }

    private void bestFirst() {
        Run x = s.of(22, ", of several the first by MEN, TENS by numbers:");
        x.told("saint0 1;saint0 1;saint0 1;saint0 2;saint0 2;saint0 2;saint0 3;saint0 3;");
        x.dueEach("best(1?)", 0, 0, 0, 1, 1, 1, 2, 2);
        Run y = x.anew().told("quarrel9 0 1;quarrel9 0 1;quarrel9 0 1;quarrel9 0 2;most0 1;most1 3;most2 1;");
        y.dueEach("best(1?)", 0, 1, 1, 1);
        // Two of five have to be together, in TEN 1.
        Run z = x.anew().told("quarrel1 0 3;quarrel1 0 2;quarrel1 0 1;quarrel1 0 1;quarrel1 0 0;most0 1;"
                + "most1 2;most2 1;most3 1;");
        z.dueEach("best(1?)", 0, 1, 1, 2, 3).asks("best(0)", 7 * 12);
        // An empty TEN of another MOST is not alike: here the first one is full with one, and 1 takes five.
        String tight = "most0 1;most1 5;most2 1;most3 1;";
        String calm = "calm0 0 1;calm0 0 1;calm0 0 1;calm0 0 1;calm0 0 1;";
        Run v = x.anew().told("quarrel0 0 0;quarrel0 0 2;quarrel0 0 3;" + calm + tight);
        v.dueEach("best(1?)", 0, 1, 2, 1, 1, 1, 1, 3).asks("best(0)", 0);
        Run w = x.anew().told(calm + "quarrel0 0 0;quarrel0 0 2;quarrel0 0 3;" + tight);
        w.dueEach("best(1?)", 0, 1, 1, 1, 1, 1, 2, 3).asks("best(0)", 0);
        // Four have to be by themselves, so the calm one ahead of them leaves TEN 0 free.
        Run u = x.anew().told("calm0 0 1;quarrel0 0 0;quarrel0 0 1;quarrel0 0 2;quarrel0 0 3;" + tight);
        u.dueEach("best(1?)", 1, 0, 1, 2, 3).asks("best(0)", 0);
    }

    private void bestOfMen() {
        Run x = s.of(22, "that HARM (what 0); 10 and m: the TEN of a MAN by it (NONE: a wanderer).").busy();
        // 0 has 4 by 2 as 5 by 2: so he is moved for the sake of 1 alone, whose 4 becomes 3.
        x.asks("best(0)", (2 + 3 + 2 + 7 + 6) * 11 + 60).dueEach("best(1?)", 0, 1, 0, 1, NONE, 1);
        x.dueEach("man(?, 3)", 0, 0, 1, 1, NONE, 2);
        Run y = x.anew().told("wander9 0;calm9 0 3;fine99;").asks("best(0)", 18 * 99);
        y.asks("best(10)", NONE).asks("best(11)", 0);
    }

    private void bestBad() {
        Run x = s.of(22, "BAD.").busy().bad("best(?)", 0, 0).bad("best(?)", 10, 15);
        for (int what = 1; what < 10; what++) {
            x.refuses("best(" + what + ")", BAD);
        }
        // What is 10 above the least wraps around, and is no MAN.
        x.refuses("best(-2147483638)", BAD).refuses("best(-10)", BAD).refuses("best(20)", BAD);
        Run y = x.anew().bad("best(?)", 0, 0).refuses("best(10)", BAD);
        y.told("saint0 0;saint0 0;saint0 0;saint0 1;saint0 1;saint0 1;saint0 2;saint0 2;");
        y.asks("best(17)", 2).bad("best(?)", 10, 17);
    }

    private void changeLeast() {
        Run x = s.of(23, "Two MEN by whose swap() HARM OF ALL is least, less than now:");
        x.told("quarrel1 0 0;quarrel1 0 0;saint0 1;most0 2;most1 1;fine1;").asks("change(0)", 2);
        x.asks("change(1)", 2).asks("harm()", 4);
        // Alike is not less: two quarrelsome ones of 9 are no worse together.
        x.does("odd(0, 9)", "odd(1, 9)").refuses("change(0)", NONE).refuses("change(1)", NONE);
        x.does("odd(1, 8)").asks("change(0)", 2).asks("change(1)", 17).does("law(0, 0)");
        x.refuses("change(0)", NONE);
        // The better of two changes comes behind.
        Run y = x.anew().told("quarrel9 0 0;quarrel1 0 0;saint0 1;quarrel1 0 2;quarrel1 0 2;saint0 3;fine1;");
        y.asks("harm()", 15).asks("change(0)", 23).asks("change(1)", 13);
    }

    private void changePairs() {
        Run x = s.of(23, "10 times the lesser one and the greater one, of several the least (what 0), "
                + "that HARM (1).");
        x.told("quarrel1 0 0;calm1 0 1;quarrel1 0 0;").asks("change(0)", 1).asks("change(1)", 36);
        x.told("calm1 0 1;quarrel1 0 0;quarrel1 0 0;").asks("change(0)", 1).asks("change(1)", 36);
        String five = "wander0 0;wander0 0;wander0 0;wander0 0;wander0 0;";
        // Only a 9 in place of the 1 makes it less: where two are together, 9 is no worse.
        x.anew().told(five + "quarrel9 0 0;quarrel1 0 0;quarrel9 0 1;").asks("change(0)", 67)
                .asks("change(1)", 19 * 12);
    }

    private void changeRefused() {
        Run x = s.of(23, "BAD;").busy().bad("change(?)", 0, 1).asks("change(0)", 2);
        x.anew().bad("change(?)", 0, 1);
        Run y = s.of(23, "NONE: by none.").refuses("change(0)", NONE).refuses("change(1)", NONE);
        for (String text : new String[] {"quarrel9 0 0;", "quarrel1 0 0;quarrel1 0 0;quarrel1 0 0;",
            "quarrel1 0 0;quarrel1 0 0;wander1 0;", "calm9 0 0;saint0 1;", "quarrel1 0 0;quarrel1 0 1;"}) {
            y.told(text).refuses("change(0)", NONE).refuses("change(1)", NONE);
        }
    }

    private void takesBound() {
        Run x = s.of(24, "The TEN that takes a MAN (HARM of it with him");
        x.told("calm4 0 0;calm5 0 1;saint0 1;saint0 2;saint0 3;most2 1;most3 1;fine11;watch1;");
        x.asks("takes(0)", 1).does("watch(2, true)");
        Run y = s.of(24, "being less than 10 times FINE)");
        y.told("calm4 0 0;calm5 0 1;saint0 1;saint0 2;saint0 3;most2 1;most3 1;fine11;watch1;");
        // 99 and 10 is less than 110; 99 and 20 is not, nor is 110.
        y.does("watch(2, true)").asks("takes(0)", 1).does("law(1, 2)").refuses("takes(0)", NONE);
        y.does("law(1, 0)").asks("takes(0)", 1).does("odd(0, 5)").refuses("takes(0)", NONE);
        y.does("law(0, 0)", "odd(0, 0)", "odd(1, 0)").refuses("takes(0)", NONE).does("law(0, 1)");
        y.asks("takes(0)", 1).does("law(1, 1)").refuses("takes(0)", NONE);
    }

    private void takesAsThere() {
        Run x = s.of(24, ", as he would be there,");
        String rest = "saint0 2;saint0 3;most2 1;most3 1;fine10;watch2;";
        // 2 and 7, and 1 for each by the other one: 11 in all; with a calm one 9.
        x.told("quarrel2 0 0;quarrel7 0 1;" + rest).refuses("takes(0)", NONE);
        x.told("calm2 0 0;quarrel7 0 1;" + rest).asks("takes(0)", 1);
        // A wanderer would be calm there, also if he has been quarrelsome.
        x.told("wander2 0;quarrel7 0 1;saint0 0;most0 1;" + rest).asks("takes(0)", 1);
        x.told("quarrel2 0 0;quarrel7 0 1;wander0 0;most0 1;" + rest).does("leave(0)", "move(2, 0)");
        x.asks("takes(0)", 1);
        // Watched there, too: 3 by 2 and 8, and 20 is not less than 100, but with COST 0 it is.
        Run y = x.anew().told("quarrel2 0 0;quarrel7 0 1;" + rest).does("watch(0, true)");
        y.refuses("takes(0)", NONE).does("law(1, 0)").asks("takes(0)", 1).does("watch(0, false)");
        y.refuses("takes(0)", NONE);
    }

    private void takesLeast() {
        Run x = s.of(24, "with least HARM then, not its own, not of MOST, of several the first.");
        x.told("calm1 0 0;calm3 0 1;calm2 0 2;calm3 0 3;most1 1;most2 2;most3 2;wander1 0;");
        x.asks("takes(0)", 2).asks("takes(1)", 0).asks("takes(2)", 0).asks("takes(4)", 0);
        x.does("move(4, 2)").asks("takes(0)", 3).does("odd(2, 0)").asks("takes(4)", 0);
        Run y = x.anew().told("wander1 0;saint0 3;").asks("takes(0)", 0).asks("takes(1)", 0);
        y.does("move(0, 0)").asks("takes(0)", 1).asks("takes(1)", 1);
    }

    private void takesRefused() {
        s.of(24, "BAD;").busy().bad("takes(?)", 0, 5).anew().bad("takes(?)", 0, -1);
        Run x = s.of(24, "NONE: there is none.");
        x.told("saint0 0;saint0 1;saint0 2;saint0 3;wander0 0;most0 1;most1 1;most2 1;most3 1;");
        for (int m = 0; m < 5; m++) {
            x.refuses("takes(" + m + ")", NONE);
        }
        x.does("leave(3)").asks("takes(0)", 3).asks("takes(4)", 3).does("law(0, 0)")
                .refuses("takes(4)", NONE);
    }

    private void weight() {
        Run x = s.of(25, "By how much (tenths) HARM of its TEN is less without a MAN: 1000 and that.");
        x.told("quarrel4 0 0;quarrel4 0 0;quarrel4 0 0;quarrel4 0 0;quarrel4 0 0;saint0 1;calm9 0 1;"
                + "calm0 0 1;fine99;most0 5;watch9;");
        x.dueEach("weight(?)", 2188, 2188, 2188, 2188, 2188, 1000, 1891, 1000);
        x.does("watch(5, true)", "watch(6, true)", "watch(0, true)");
        // 8 by 2, and 90, and 1 more for each of the four others.
        x.dueEach("weight(?)", 1000 + 396 + 90 + 396).due("weight(5)", 1090)
                .due("weight(6)", 1000 + 396 + 90);
        // The watched one's 8 by 2 becomes 7 by 2, which is 1 less; 9 by 2 becomes 8 by 2, which is not.
        x.due("weight(1)", 1000 + 792 + 297 + 99).does("odd(0, 5)").due("weight(1)", 1000 + 792 + 297);
        Run y = x.anew().told("quarrel9 0 0;quarrel9 0 0;").dueEach("weight(?)", 1108, 1108);
        y.does("odd(1, 8)").dueEach("weight(?)", 1120, 1108).does("law(0, 0)")
                .dueEach("weight(?)", 1000, 1000);
    }

    private void weightRefused() {
        s.of(25, "BAD;").busy().bad("weight(?)", 0, 5).asks("weight(5)", 1077);
        Run x = s.of(25, "STATE: a wanderer.").busy().refuses("weight(4)", STATE).does("leave(5)");
        x.refuses("weight(5)", STATE);
    }

    // ---- a bad one

    private void should() {
        Run x = s.of(26, "What is cheapest with a MAN by HARM OF ALL: 0 to leave all as it is, 1 to "
                + "change whether he is watched, 2 to give him up (a wanderer), of several the least.");
        x.told("calm5 0 0;quarrel4 0 1;quarrel7 0 1;saint0 2;fine10;watch3;");
        // 50, or 20 and 30, or 50.
        x.asks("should(0)", 0).does("law(1, 2)").asks("should(0)", 1).does("law(1, 4)").asks("should(0)", 0);
        // 5 and 8 are 130; 2 and 8, and COST; 4 and 7 are 110: with COST 1, 2 and 1 are alike.
        x.does("law(1, 1)").asks("should(1)", 1).does("law(1, 2)").asks("should(1)", 2).does("law(1, 0)");
        x.asks("should(1)", 1).asks("should(3)", 0).does("watch(3, true)").asks("should(3)", 0);
        x.does("law(1, 1)").asks("should(3)", 1).does("watch(0, true)", "law(1, 3)").asks("should(0)", 0);
        x.does("law(1, 4)").asks("should(0)", 1);
        // Watched: 20 and 90 and 80; as 5 and 8 130; 4 and 7 are 110 by themselves.
        x.does("watch(1, true)", "law(1, 9)").asks("should(1)", 2).does("law(0, 0)").asks("should(1)", 1);
        x.does("law(1, 0)").asks("should(1)", 0);
    }

    private void shouldRefused() {
        s.of(26, "BAD;").busy().bad("should(?)", 0, 5);
        Run x = s.of(26, "STATE: a wanderer.").busy().refuses("should(4)", STATE).does("leave(0)");
        x.refuses("should(0)", STATE);
    }

    private void guard() {
        Run x = s.of(27, "The set of MEN to be watched (in place of those who are) by which HARM OF ALL "
                + "is least");
        x.asks("guard(0)", 0).asks("guard(1)", 0);
        String eight = "calm9 0 0;calm9 0 0;calm9 0 0;calm9 0 1;calm9 0 1;calm9 0 1;calm9 0 2;calm9 0 2;"
                + "fine99;";
        x.told(eight).asks("guard(0)", 255).asks("guard(1)", 8 * (4 * 99 + 20)).does("leave(3)");
        x.asks("guard(0)", 247).asks("guard(1)", 7 * (4 * 99 + 20) + 891);
        Run y = x.anew().told("saint0 0;calm0 0 0;calm1 0 0;wander9 0;fine91;watch9;");
        y.does("watch(0, true)", "watch(1, true)").asks("guard(0)", 4).asks("guard(1)", 90 + 819);
        // The saint and the wanderer are none of it, even if it costs nothing.
        y.does("law(1, 0)").asks("guard(0)", 4).asks("guard(1)", 819);
        y.does("law(0, 0)").asks("guard(0)", 0).asks("guard(1)", 0).asks("rule(4)", 3);
    }

    private void guardFewest() {
        Run x = s.of(27, ", of several with fewest, of these the least by bits (what 0), that HARM (1).");
        // 1 is 0 if he is watched: 91 is more than 90, which is COST; 90 is alike, and he is left out.
        x.told("calm1 0 0;calm3 0 1;quarrel9 0 2;quarrel9 0 2;fine91;watch9;").asks("guard(0)", 15);
        x.asks("guard(1)", 91 + 10 * 91 + 4 * 90).does("law(0, 90)").asks("guard(0)", 14);
        x.asks("guard(1)", 90 + 90 + 10 * 90 + 3 * 90).does("law(0, 45)").asks("guard(0)", 12);
        // 10 by 2 is 4 less than 9: 22.5 by 4 would be 90.
        x.does("law(0, 23)").asks("guard(0)", 12).does("law(0, 22)").asks("guard(0)", 0);
        x.asks("guard(1)", 22 * 22).does("law(1, 0)", "law(0, 1)").asks("guard(0)", 15).does("law(0, 0)");
        x.asks("guard(0)", 0).does("watch(0, true)").asks("guard(0)", 0);
    }

    private void guardBad() {
        s.of(27, "BAD.").busy().bad("guard(?)", 0, 1).anew().bad("guard(?)", 0, 1);
    }

    private void worth() {
        Run x = s.of(28, "The greatest COST (0 to 9) by which it is cheaper (HARM of its TEN less) that a "
                + "MAN is watched than not, all else as it is.");
        x.told("calm1 0 0;calm9 0 1;quarrel9 0 2;quarrel9 0 2;saint0 3;");
        int[] fines = {1, 9, 10, 11, 20, 21, 80, 81, 90, 91, 99};
        int[] costs = {0, 0, 0, 1, 1, 2, 7, 8, 8, 9, 9};
        for (int i = 0; i < fines.length; i++) {
            // COST as it is has no part in it, nor whether he is watched already.
            x.does("law(0, " + fines[i] + ")", "law(1, " + i % 10 + ")", "watch(0, " + (i % 2 == 0) + ")");
            x.due("worth(0)", costs[i]);
        }
        // 5 of 9 are won, or 4, if it is 10 by 2.
        x.does("law(0, 18)").asks("worth(1)", 8).asks("worth(2)", 7).does("law(0, 2)").asks("worth(1)", 0);
        x.does("law(0, 3)").asks("worth(1)", 1).asks("worth(2)", 1).does("leave(3)", "law(0, 4)");
        x.asks("worth(2)", 1).does("law(0, 5)").asks("worth(2)", 2);
    }

    private void worthRefused() {
        s.of(28, "BAD;").busy().bad("worth(?)", 0, 5);
        Run x = s.of(28, "STATE: a wanderer;").busy().refuses("worth(4)", STATE).does("leave(0)");
        x.refuses("worth(0)", STATE).does("law(0, 0)").refuses("worth(0)", STATE);
        Run y = s.of(28, "NONE: by none.").busy().refuses("worth(3)", NONE).does("odd(5, 0)");
        y.refuses("worth(5)", NONE).does("odd(5, 1)").asks("worth(5)", 1).does("law(0, 0)");
        y.refuses("worth(5)", NONE).refuses("worth(0)", NONE).does("law(0, 1)").asks("worth(5)", 0);
    }
}
