/** The terms ahead of the text: answers, fractions, the bounds of what there is, ODDS IN A TEN. */
final class TermsBounds {
    private static final int BAD = TenPledges.BAD, STATE = TenPledges.STATE, FULL = TenPledges.FULL,
            NONE = TenPledges.NONE;

    private final Check c;
    private final Sentences s;

    TermsBounds(Check c, Sentences s) {
        this.c = c;
        this.s = s;
    }

    void all() {
        answers();
        firstThatFits();
        refusedChangesNothing();
        fractions();
        men();
        kinds();
        odds();
        goods();
        tens();
        mosts();
        fine();
        cost();
        watched();
        kin();
        year();
        saintsOdds();
        halvedOdds();
        quarrelsomeOdds();
        oddsAtMost();
        wanderersOdds();
    }

    private void answers() {
        Run x = s.ofTerms("Answers: BAD -1 (a number is not as told, there is no such MAN, TEN, IMAGE, "
                + "SHEET), STATE -2 (as told), FULL -3, NONE -4 (there is none)").busy();
        c.due("Terms: BAD", BAD, -1);
        c.due("Terms: STATE", STATE, -2);
        c.due("Terms: FULL", FULL, -3);
        c.due("Terms: NONE", NONE, -4);
        x.refuses("feed(128)", -1).refuses("man(6, 0)", -1).refuses("ten(4, 0)", -1);
        x.refuses("keep(2)", -1).refuses("back(2)", -1).refuses("sheet(4, 0, 1)", -1);
        x.refuses("leave(4)", -2).refuses("move(5, 0)", -3).refuses("worth(3)", -4);
    }

    private void firstThatFits() {
        Run x = s.ofTerms("the first that fits").busy();
        x.refuses("swap(4, 4)", BAD).refuses("swap(4, 6)", BAD).refuses("odd(3, 10)", BAD);
        x.refuses("move(6, 0)", BAD).refuses("move(4, 0)", FULL);
        x.does("see(0, 0)", "see(0, 0)", "see(0, 0)", "see(0, 0)").refuses("see(0, 100)", BAD);
        x.refuses("see(6, 0)", BAD).refuses("see(0, 0)", FULL);
        x.does("law(0, 0)").refuses("change(2)", BAD).refuses("change(0)", NONE);
        x.does("forget(0)", "see(4, 1)").refuses("fits(5)", BAD).refuses("fits(1)", NONE);
        Run y = x.anew().refuses("back(2)", BAD).refuses("back(1)", STATE);
        y.refuses("sheet(0, 3, -1)", BAD).refuses("sheet(4, 0, -1)", BAD);
        y.refuses("lay(4, -1, 0)", BAD).refuses("lay(3, -1, 0)", -11);
        y.feeds(" ".repeat(160)).refuses("feed(128)", BAD).refuses("feed(32)", FULL);
    }

    private void refusedChangesNothing() {
        Run x = s.ofTerms("; what is refused changes nothing (but THE TAPE, as told)").busy();
        x.refuses("end(10)", BAD).refuses("swap(0, 1)", STATE).refuses("move(2, 0)", FULL);
        x.refuses("takes(6)", BAD).refuses("sheet(0, 0, -1)", -14).refuses("lay(3, 0, 0)", -11);
        x.refuses("lay(0, 4, 1)", -12).does("lay(0, 3, 4)").refuses("read(0, 0, 0, 2)", -21);
        x.due("count(5)", 9).refusesText("calm9", 2, 14).due("count(5)", 0);
    }

    private void fractions() {
        String worst = "calm9 9 0;calm9 9 0;calm9 9 0;calm9 9 0;calm9 9 0;most0 5;";
        Run x = s.ofTerms("Fractions are in lowest terms, the denominator above 0 (0 is 0 by 1).");
        x.told(worst).asks("calm(0, 0)", 1).asks("calm(0, 1)", 100000);
        x.asks("calm(1, 0)", 1).asks("calm(1, 1)", 1);
        x.does("odd(0, 5)", "odd(1, 5)", "odd(2, 5)", "odd(3, 5)", "odd(4, 5)");
        x.asks("calm(0, 0)", 1).asks("calm(0, 1)", 32);
        Run y = x.anew().told("calm5 0 0;calm5 99 0;calm0 9 0;saint9 1;wander9 9;fine4;");
        y.asks("mean(0, 0)", 0).asks("mean(0, 1)", 1).asks("mean(3, 0)", 0).asks("mean(3, 1)", 1);
        y.asks("mean(4, 0)", 0).asks("mean(4, 1)", 1).asks("mean(1, 0)", 1).asks("mean(1, 1)", 1);
        y.does("law(0, 99)", "kin(0, 2, true)").asks("mean(1, 0)", 99).asks("mean(1, 1)", 2);
    }

    private void men() {
        String eight = "saint7 0;saint6 0;saint5 0;saint4 1;saint3 1;saint2 1;saint1 2;saint0 2;";
        Run x = s.ofTerms("MEN 0 on (8 at most), by order");
        x.asks("rule(0)", 0).bad("man(?, 2)", 0, -1);
        x.told(eight).asks("rule(0)", 8).dueEach("man(?, 2)", 7, 6, 5, 4, 3, 2, 1, 0);
        x.bad("man(?, 2)", 0, 7).refusesText(eight + "saint0 3;", 5, 72);
        x.told("saint9 0;").asks("man(0, 2)", 9).bad("man(?, 2)", 0, 0);
    }

    private void kinds() {
        Run x = s.ofTerms(", each of a KIND (0 calm, 1 quarrelsome, 2 saint, 3 wanderer)");
        x.told("calm0 0 0;quarrel0 0 0;saint0 0;wander0 0;").dueEach("man(?, 0)", 0, 1, 2, 3);
    }

    private void odds() {
        Run x = s.ofTerms(", with ODDS (0 to 9 tenths: that he does wrong in a YEAR)");
        x.told("calm0 0 0;calm9 0 0;quarrel0 0 1;quarrel9 0 2;wander0 0;wander9 0;");
        x.dueEach("man(?, 1)", 0, 9, 0, 9, 0, 9);
        x.refusesText("calm10 0 0;", 3, 4).refusesText("quarrel10 0 0;", 3, 7);
        x.refusesText("wander10 0;", 3, 6).bad("odd(0, ?)", 0, 9);
        x.due("odd(0, 9)", 0).due("odd(0, 0)", 9).due("odd(0, 0)", 0);
        // Tenths: nobody of TEN 0 does wrong by 1 of 10, with ODDS 9; always, with ODDS 0.
        x.asks("calm(0, 0)", 1).asks("calm(0, 1)", 10).does("odd(1, 0)").asks("calm(0, 1)", 1);
    }

    private void goods() {
        Run x = s.ofTerms(", GOODS (0 to 99)");
        x.told("calm0 0 0;calm0 99 0;quarrel0 0 1;quarrel0 99 1;saint0 2;saint99 2;wander0 0;wander0 99;");
        x.dueEach("man(?, 2)", 0, 99, 0, 99, 0, 99, 0, 99);
        x.refusesText("calm0 100 0;", 1, 6).refusesText("quarrel0 100 0;", 1, 9);
        x.refusesText("saint100 0;", 1, 5).refusesText("wander0 100;", 1, 8);
        x.bad("goods(0, ?)", 0, 99).due("goods(0, 99)", 0).due("goods(0, 0)", 99);
        // He has nothing: a YEAR makes it no less.
        x.due("year(2)", 0).due("man(0, 2)", 0);
    }

    private void tens() {
        Run x = s.ofTerms(", in a TEN (0 to 3; wanderers in none). TENS are 4");
        x.told("calm0 1 0;quarrel0 1 3;saint1 0;saint1 3;wander0 1;");
        x.dueEach("man(?, 3)", 0, 3, 0, 3, NONE).dueEach("ten(?, 0)", 5, 0, 0, 10);
        x.bad("ten(?, 0)", 0, 3).bad("move(0, ?)", 0, 3).bad("calm(?, 0)", 0, 3);
        x.refusesText("calm0 1 4;", 3, 8).refusesText("quarrel0 1 4;", 3, 11);
        x.refusesText("saint1 4;", 3, 7).refusesText("most4 1;", 3, 4);
        x.due("move(0, 3)", 0).due("move(0, 0)", 3);
    }

    private void mosts() {
        Run x = s.ofTerms(", each of MOST men (1 to 5; 3 at first).");
        x.dueEach("ten(?, 1)", 3, 3, 3, 3);
        x.told("most0 1;most1 5;most3 4;").dueEach("ten(?, 1)", 1, 5, 3, 4);
        x.refusesText("most0 0;", 3, 6).refusesText("most0 6;", 3, 6);
        x.told("calm0 0 0;").dueEach("ten(?, 1)", 3, 3, 3, 3);
    }

    private void fine() {
        Run x = s.ofTerms("A FINE (0 to 99; 12 at first).");
        x.asks("rule(1)", 12).told("fine0;").asks("rule(1)", 0).told("fine99;").asks("rule(1)", 99);
        x.refusesText("fine100;", 1, 4).told("watch1;").asks("rule(1)", 12);
        x.bad("law(0, ?)", 0, 99).due("law(0, 99)", 12).due("law(0, 0)", 99);
    }

    private void cost() {
        Run x = s.ofTerms("WATCH: COST (0 to 9; 2) of each man who is watched;");
        x.asks("rule(2)", 2).told("watch0;").asks("rule(2)", 0).told("watch9;").asks("rule(2)", 9);
        x.refusesText("watch10;", 3, 5).told("saint50 0;saint50 0;saint50 0;").asks("rule(2)", 2);
        x.bad("law(1, ?)", 0, 9).due("law(1, 9)", 2).due("year(0)", 0);
        x.does("watch(0, true)").due("year(0)", 9).does("watch(2, true)").due("year(0)", 18);
        x.due("law(1, 0)", 9).due("year(0)", 0);
    }

    private void watched() {
        Run x = s.ofTerms("a man is watched, or not (at first).");
        x.asks("rule(4)", 0).told("calm0 0 0;saint0 0;wander0 0;").asks("rule(4)", 0);
        x.due("watch(0, true)", 0).asks("rule(4)", 1).due("watch(0, false)", 1).asks("rule(4)", 0);
    }

    private void kin() {
        Run x = s.ofTerms("KIN: pairs of MEN (none at first).");
        x.told("calm0 0 0;saint0 0;wander0 0;").dueEach("man(?, 4)", 0, 0, 0);
        x.due("kin(0, 2, true)", 0).dueEach("man(?, 4)", 4, 0, 1).due("kin(2, 0, true)", 1);
    }

    private void year() {
        Run x = s.ofTerms("YEAR (0 at first).").asks("rule(3)", 0).told("calm0 0 0;").asks("rule(3)", 0);
        x.does("year(0)").asks("rule(3)", 1).told("calm0 0 0;").asks("rule(3)", 0);
    }

    private void saintsOdds() {
        Run x = s.ofTerms("ODDS IN A TEN of a MAN: a saint: none.");
        x.told("saint0 0;quarrel9 0 0;quarrel9 0 0;").asks("man(0, 5)", 0);
        x.does("watch(0, true)").asks("man(0, 5)", 0);
    }

    private void halvedOdds() {
        Run x = s.ofTerms("Else his ODDS; halved (down), if he is watched;").told("calm0 0 0;");
        for (int odds = 0; odds <= 9; odds++) {
            x.does("odd(0, " + odds + ")").due("man(0, 5)", odds);
            x.does("watch(0, true)").due("man(0, 5)", odds / 2).does("watch(0, false)");
        }
    }

    private void quarrelsomeOdds() {
        Run x = s.ofTerms("a quarrelsome one's 1 more for each other quarrelsome one in his TEN, before "
                + "that;");
        x.told("quarrel0 0 0;calm0 0 0;saint0 0;wander0 0;quarrel0 0 1;most0 5;");
        x.dueEach("man(?, 5)", 0, 0, 0, 0, 0).does("move(4, 0)").dueEach("man(?, 5)", 1, 0, 0, 0, 1);
        x.does("leave(4)").dueEach("man(?, 5)", 0, 0, 0, 0, 0);
        Run y = x.anew().told("quarrel0 0 0;quarrel1 0 0;quarrel2 0 0;quarrel3 0 0;quarrel4 0 0;most0 5;");
        y.dueEach("man(?, 5)", 4, 5, 6, 7, 8).does("leave(0)").dueEach("man(?, 5)", 0, 4, 5, 6, 7);
        // 3 more ahead of the half: 4, 5, 6, 7 by 2, and not 0, 1, 1, 2 and 3.
        y.does("watch(1, true)", "watch(2, true)", "watch(3, true)", "watch(4, true)");
        y.dueEach("man(?, 5)", 0, 2, 2, 3, 3);
    }

    private void oddsAtMost() {
        Run x = s.ofTerms("9 at most, in the end.");
        x.told("quarrel8 0 0;quarrel9 0 0;calm9 0 0;").dueEach("man(?, 5)", 9, 9, 9);
        // In the end: 10 by 2 is 5; were 9 the most ahead of the half, it would be 4.
        x.does("watch(0, true)", "watch(1, true)").dueEach("man(?, 5)", 4, 5, 9);
        Run y = x.anew().told("quarrel9 0 0;quarrel9 0 0;quarrel9 0 0;quarrel9 0 0;quarrel7 0 0;most0 5;");
        y.dueEach("man(?, 5)", 9, 9, 9, 9, 9).does("watch(0, true)", "watch(4, true)");
        y.dueEach("man(?, 5)", 6, 9, 9, 9, 5);
    }

    private void wanderersOdds() {
        Run x = s.ofTerms("A wanderer's: his ODDS.").told("wander0 0;wander9 0;quarrel7 0 0;quarrel9 0 0;");
        x.dueEach("man(?, 5)", 0, 9, 8, 9).does("watch(2, true)", "leave(2)").due("man(2, 5)", 7);
    }
}
