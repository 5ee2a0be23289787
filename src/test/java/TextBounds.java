/** Promises 1 to 8, and the terms of THE TAPE, its TOKENS, its lines and their FAULTS. */
final class TextBounds {
    private static final int BAD = TenPledges.BAD, STATE = TenPledges.STATE, FULL = TenPledges.FULL,
            NONE = TenPledges.NONE;
    private static final String EIGHT = "wander1 1;wander1 1;wander1 1;wander1 1;"
            + "wander1 1;wander1 1;wander1 1;wander1 1;";

    private final Sentences s;

    TextBounds(Sentences s) {
        this.s = s;
    }

    void all() {
        nobody();
        sheetsOfNothing();
        feedByte();
        feedBad();
        feedFull();
        endKeeps();
        endBad();
        textEmpties();
        textLines();
        textPlace();
        textStays();
        faultOfLatest();
        rule();
        ruleBad();
        man();
        manBad();
        ten();
        tenBad();
        tape();
        tokens();
        lines();
        linesOfMen();
        linesOfLaws();
        linesOfKin();
        firstMet();
        noToken();
        standsNot();
        outOfBounds();
        secondTime();
        ninthMan();
        noSuchMan();
        moreThanMost();
        tellsAll();
    }

    // ---- promises 1 to 8

    private void nobody() {
        Run x = s.of(1, "Nobody;");
        x.dueEach("rule(?)", 0, 12, 2, 0, 0, 0, BAD).dueEach("count(?)", 0, 0, 0, 0, 0, 0, NONE, BAD);
        for (int t = 0; t < 4; t++) {
            x.dueEach("ten(" + t + ", ?)", 0, 3, 0, 0).dueEach("calm(" + t + ", ?)", 1, 1);
        }
        for (String call : new String[] {"man(0, 0)", "move(0, 0)", "leave(0)", "swap(0, 1)",
            "watch(0, true)", "kin(0, 1, true)", "odd(0, 0)", "goods(0, 0)", "year(1)", "pays(0, 0)",
            "mean(0, 0)", "best(10)", "takes(0)", "weight(0)", "should(0)", "worth(0)", "see(0, 0)",
            "forget(1)", "end(1)"}) {
            x.refuses(call, BAD);
        }
        x.refuses("back(0)", STATE).refuses("back(1)", STATE).refuses("change(0)", NONE);
        x.asks("fault()", 0).asks("torn()", 0).asks("harm()", 0).asks("best(0)", 0).asks("guard(0)", 0);
        x.asks("guard(1)", 0).asks("drift(1, 60, 0)", 0).asks("drift(1, 60, 1)", 0);
        x.dueEach("fits(?)", 1, 0, 0, 0, 0).due("end(0)", 0).due("forget(0)", 0).due("year(0)", 0);
    }

    private void sheetsOfNothing() {
        Run x = s.of(1, "SHEETS of nothing.").refuses("count(6)", NONE);
        for (int k = 0; k < 4; k++) {
            x.refuses("lay(" + k + ", 0, 0)", -11);
            for (int lane = 0; lane < 3; lane++) {
                x.anew().due("read(" + k + ", " + lane + ", 0, 1)", 0).due("torn()", 1);
            }
        }
    }

    private void feedByte() {
        Run x = s.of(2, "A byte (0 to 127) comes behind THE TAPE: how many it has.");
        x.due("feed(0)", 1).due("feed(127)", 2).due("count(5)", 2);
        Run y = x.anew().feeds("saint5 1;").due("text()", 1).due("man(0, 2)", 5).due("man(0, 3)", 1);
        y.due("feed(32)", 1);
    }

    private void feedBad() {
        Run x = s.of(2, "BAD;").bad("feed(?)", 0, 127).feeds("fine7;").bad("feed(?)", 0, 127);
        // Their lowest bits are a blank: they are no bytes for that.
        x.refuses("feed(160)", BAD).refuses("feed(288)", BAD).refuses("feed(-96)", BAD);
        x.due("count(5)", 6).due("text()", 1);
    }

    private void feedFull() {
        Run x = s.of(2, "FULL: more than 160.").feeds("fine7;" + " ".repeat(153)).due("count(5)", 159);
        x.due("feed(32)", 160).refuses("feed(32)", FULL).refuses("feed(0)", FULL);
        x.bad("feed(?)", 0, 127).due("count(5)", 160).due("end(159)", 160).due("feed(32)", 160);
        x.refuses("feed(127)", FULL).due("text()", 1).due("rule(1)", 7).due("feed(32)", 1);
    }

    private void endKeeps() {
        Run x = s.of(3, "THE TAPE keeps its first n bytes: how many it had.").due("end(0)", 0);
        x.feeds("fine7;fine8;").due("end(12)", 12).due("count(5)", 12).due("end(6)", 12);
        x.due("count(5)", 6).feeds("watch5;").due("text()", 2).due("rule(1)", 7).due("rule(2)", 5);
        x.feeds("x").due("end(0)", 1).due("count(5)", 0).due("text()", 0);
        x.feeds(" ".repeat(160)).due("end(160)", 160).due("end(0)", 160).due("end(0)", 0);
    }

    private void endBad() {
        Run x = s.of(3, "BAD.").bad("end(?)", 0, 0).feeds("fine7;").bad("end(?)", 0, 6);
        Run y = x.anew().feeds(" ".repeat(160)).bad("end(?)", 0, 160);
        y.due("count(5)", 160);
    }

    private void textEmpties() {
        Run x = s.of(4, "THE TAPE (empty then) tells all:").told("saint5 1;fine3;").due("count(5)", 0);
        x.due("text()", 0).dueEach("rule(?)", 0, 12, 2, 0, 0, 0);
        x.feeds("x").due("text()", -10).due("count(5)", 0).due("text()", 0).due("fault()", 0);
        x.feeds(" ".repeat(160)).due("text()", 0).due("count(5)", 0).due("feed(32)", 1);
    }

    private void textLines() {
        Run x = s.of(4, "how many lines;").due("text()", 0).feeds("   ").due("text()", 0);
        x.feeds("fine0;").due("text()", 1);
        String most = "calm0 0 0;calm0 0 0;" + "kin0 1;".repeat(20);
        x.anew().feeds(most).due("count(5)", 160).due("text()", 22).due("man(1, 4)", 1);
    }

    private void textPlace() {
        Run x = s.of(4, "-10 less the place of its FAULT:").busy().does("end(0)");
        x.refusesText("~", 1, 0).refusesText(" ~", 1, 1).refusesText("fine1", 2, 5);
        Run y = x.anew().told("saint7 1;");
        y.refusesText(" ".repeat(159) + "~", 1, 159);
        Run z = x.anew().refusesText(" ".repeat(156) + "fine", 2, 160);
        z.due("fault()", 2);
    }

    private void textStays() {
        Run x = s.of(4, "that which was told stays.").busy();
        // Behind the saint on THE TAPE: all lines are read, and it is refused only then.
        x.refusesText("calm9 99 3;fine1;watch1;most1 1;kin0 2;", 6, 48);
        x.refusesText("calm10", 3, 4);
    }

    private void faultOfLatest() {
        Run x = s.of(5, "The FAULT of the latest text(); 0.").asks("fault()", 0);
        String[] texts = {"~", "fine", "watch10;", "fine1;fine1;", EIGHT + "calm", "kin0 1;",
            "saint1 0;saint1 0;most0 1;"};
        for (int i = 0; i < texts.length; i++) {
            x.feeds(texts[i]).does("text()").asks("fault()", i + 1);
        }
        x.feeds("fine1").asks("fault()", 7).does("end(0)").asks("fault()", 7);
        x.due("text()", 0).asks("fault()", 0).feeds("~").asks("fault()", 0);
    }

    private void rule() {
        Run x = s.of(6, "0 MEN, 1 FINE, 2 COST, 3 YEAR, 4 who is watched, 5 wanderers (bits).");
        x.busy().dueEach("rule(?)", 6, 11, 3, 1, 5, 16).asks("rule(0)", 6).asks("rule(5)", 16);
        x.anew().told(EIGHT).dueEach("rule(?)", 8, 12, 2, 0, 0, 255);
        Run y = x.anew().told("saint0 0;saint0 0;saint0 0;saint0 1;saint0 1;saint0 1;saint0 2;saint0 2;");
        for (int m = 0; m < 8; m++) {
            y.does("watch(" + m + ", true)");
        }
        y.dueEach("rule(?)", 8, 12, 2, 0, 255, 0);
    }

    private void ruleBad() {
        s.of(6, "BAD.").busy().bad("rule(?)", 0, 5).anew().bad("rule(?)", 0, 5);
    }

    private void man() {
        Run x = s.of(7, "Of a MAN: 0 KIND, 1 ODDS, 2 GOODS, 3 TEN (NONE: a wanderer), 4 KIN (bits), "
                + "5 ODDS IN A TEN.").busy();
        long[][] wants = {{1, 4, 47, 0, 4, 2}, {1, 3, 30, 0, 0, 4}, {0, 5, 40, 1, 1, 2},
            {2, 0, 10, 1, 0, 0}, {3, 6, 60, NONE, 0, 6}, {0, 7, 25, 2, 0, 7}};
        for (int m = 0; m < 6; m++) {
            x.dueEach("man(" + m + ", ?)", wants[m]).asks("man(" + m + ", 5)", wants[m][5]);
        }
        x.anew().told(EIGHT + "kin0 7;kin6 7;kin7 5;").asks("man(7, 4)", 97).asks("man(0, 4)", 128);
    }

    private void manBad() {
        Run x = s.of(7, "BAD.").busy();
        for (int i = 0; i <= 5; i++) {
            x.bad("man(?, " + i + ")", 0, 5).bad("man(" + i + ", ?)", 0, 5);
        }
        x.refuses("man(6, 6)", BAD).anew().told(EIGHT).bad("man(?, 4)", 0, 7).bad("man(7, ?)", 0, 5);
    }

    private void ten() {
        Run x = s.of(8, "Of a TEN: 0 its men (bits), 1 MOST, 2 HARM, 3 all GOODS of its men.").busy();
        // TEN 0: (2 and 4) times 11, and 30; TEN 1: 2 times 11, and 30; TEN 2: 7 times 11.
        long[][] wants = {{3, 2, 96, 77}, {12, 3, 52, 50}, {32, 3, 77, 25}, {0, 1, 0, 0}};
        for (int t = 0; t < 4; t++) {
            x.dueEach("ten(" + t + ", ?)", wants[t]).asks("ten(" + t + ", 3)", wants[t][3]);
        }
        Run y = x.anew().told("wander9 99;wander9 99;wander9 99;quarrel9 99 3;quarrel9 99 3;quarrel9 99 3;"
                + "quarrel9 99 3;quarrel9 99 3;most3 5;fine99;watch9;");
        y.dueEach("ten(3, ?)", 248, 5, 4455, 495);
        for (int m = 3; m < 8; m++) {
            y.does("watch(" + m + ", true)");
        }
        // 13 by 2 for each of the five, and 90.
        y.due("ten(3, 2)", 5 * (6 * 99 + 90));
    }

    private void tenBad() {
        Run x = s.of(8, "BAD.").busy();
        for (int i = 0; i <= 3; i++) {
            x.bad("ten(" + i + ", ?)", 0, 3).bad("ten(?, " + i + ")", 0, 3);
        }
        x.refuses("ten(4, 4)", BAD).anew().bad("ten(0, ?)", 0, 3).bad("ten(?, 0)", 0, 3);
    }

    // ---- the terms of a text

    private void tape() {
        Run x = s.ofTerms("THE TAPE has 160 bytes, places from 0.");
        x.feeds(" ".repeat(151) + "saint9 3;").due("count(5)", 160).refuses("feed(59)", FULL);
        x.due("text()", 1).due("man(0, 2)", 9);
        // A NAME, a NUMBER, ; and blanks as the last of 160 bytes: the end is read behind them.
        for (String last : new String[] {"fine", "fine1", "kin7 6"}) {
            x.anew().refusesText(" ".repeat(160 - last.length()) + last, 2, 160);
        }
        x.anew().refusesText(" ".repeat(158) + "99", 2, 158);
        x.anew().refusesText(" ".repeat(157) + "999", 1, 157);
        x.anew().refusesText(" ".repeat(159) + ";", 2, 159).refusesText(";", 2, 0);
    }

    private void tokens() {
        Run x = s.ofTerms("TOKENS, each as long as may be, blanks (32) between: NAMES (a .. z), "
                + "NUMBERS (1 or 2 figures), one ; .");
        x.told("calm1 2 3;").dueEach("man(0, ?)", 0, 1, 2, 3);
        x.told("  calm  01  02  03  ;  fine  7  ;  ").dueEach("man(0, ?)", 0, 1, 2, 3).due("rule(1)", 7);
        x.told("fine0;").due("rule(1)", 0).told("fine00;").due("rule(1)", 0).told("fine09;")
                .due("rule(1)", 9);
        x.told("fine99;").due("rule(1)", 99).told("fine10;").due("rule(1)", 10);
        x.refusesText("calm12 3;", 3, 4).refusesText("kin01;", 2, 5).refusesText("finewatch1;", 2, 0);
        x.refusesText("fine1;;", 2, 6).refusesText("fi ne1;", 2, 0).refusesText("fine000;", 1, 4);
        Run y = x.anew();
        for (int c : new int[] {0, 9, 10, 31, 33, '/', ':', '<', '@', 'A', 'Z', '[', '`', '{', 127}) {
            y.refusesText("fine" + (char) c + "1;", 1, 4);
        }
    }

    private void lines() {
        Run x = s.ofTerms("text: { line } line: calm N N N ; | quarrel N N N ; | saint N N ; | wander N N ; "
                + "| fine N ; | watch N ; | most N N ; | kin N N ;");
        String[] names = {"calm", "quarrel", "saint", "wander", "fine", "watch", "most", "kin"};
        int[] numbers = {3, 3, 2, 2, 1, 1, 2, 2};
        x.due("text()", 0);
        for (int i = 0; i < names.length; i++) {
            Run y = x.anew();
            String line = names[i];
            for (int n = 0; n < numbers[i]; n++) {
                y.refusesText(line, 2, line.length()).refusesText(line + ";", 2, line.length());
                y.refusesText(line + " kin", 2, line.length() + 1);
                line += " " + (n + 1);
            }
            y.refusesText(line, 2, line.length()).refusesText(line + "kin", 2, line.length());
            y.refusesText(line + " 1;", 2, line.length() + 1);
            y.feeds("wander0 0;wander0 0;wander0 0;" + line + ";").due("text()", 4);
            // A NAME that is one letter off, at either end.
            y.refusesText("b" + names[i].substring(1), 2, 0).refusesText(names[i] + "s", 2, 0);
            y.refusesText(names[i].substring(1), 2, 0).refusesText(line + ";" + names[i] + "z", 2,
                    line.length() + 1);
        }
    }

    private void linesOfMen() {
        Run x = s.ofTerms("calm, quarrel: a MAN more of that KIND: ODDS, GOODS, his TEN (0 to 3). "
                + "saint: GOODS, TEN (ODDS 0). wander: ODDS, GOODS.");
        x.told("calm9 98 0;quarrel8 97 3;saint96 2;wander7 95;calm0 0 3;quarrel0 0 0;saint0 0;wander0 0;");
        long[][] wants = {{0, 9, 98, 0}, {1, 8, 97, 3}, {2, 0, 96, 2}, {3, 7, 95, NONE}, {0, 0, 0, 3},
            {1, 0, 0, 0}, {2, 0, 0, 0}, {3, 0, 0, NONE}};
        for (int m = 0; m < 8; m++) {
            x.dueEach("man(" + m + ", ?)", wants[m]);
        }
        x.refusesText("calm9 98 4;", 3, 9).refusesText("quarrel8 97 4;", 3, 12);
        x.refusesText("saint96 4;", 3, 8).refusesText("wander10 5;", 3, 6);
    }

    private void linesOfLaws() {
        Run x = s.ofTerms("fine: FINE. watch: COST. most: a TEN, MOST of it.");
        x.told("most3 5;fine98;most0 1;watch8;").due("rule(1)", 98).due("rule(2)", 8);
        x.dueEach("ten(?, 1)", 1, 3, 3, 5).refusesText("most5 3;", 3, 4).refusesText("watch98;", 3, 5);
    }

    private void linesOfKin() {
        Run x = s.ofTerms("kin: two MEN (0 to 7).").told(EIGHT + "kin0 7;kin7 1;");
        x.dueEach("man(?, 4)", 128, 128, 0, 0, 0, 0, 0, 3);
        x.refusesText("kin8 0;", 3, 3).refusesText("kin0 8;", 3, 5).refusesText("kin7 7;", 3, 5);
        x.told("kin1 0;kin0 1;kin1 0;saint0 0;saint0 0;").dueEach("man(?, 4)", 2, 1);
    }

    private void firstMet() {
        Run x = s.ofTerms("FAULTS, the first met as it is read (a TOKEN is read when the one before has "
                + "been taken):").told("saint7 1;");
        x.refusesText("calm10~", 3, 4).refusesText("calms~", 2, 0).refusesText("calm~", 1, 4);
        x.refusesText("calm;~", 2, 4).refusesText("fine1;fine~", 4, 6).refusesText("fine1;fine~;100", 4, 6);
        x.refusesText("most0 1;most0~", 4, 12).refusesText("most0 6~", 3, 6).refusesText("kin8 8~", 3, 3);
        x.refusesText("kin3 3~", 3, 5).refusesText("calm1 100 9", 1, 6).refusesText("fine1 100", 1, 6);
        x.refusesText("kin0 1;~", 1, 7).refusesText("kin0 1;fine", 2, 11);
        x.refusesText("kin0 1;watch10;", 3, 12).refusesText("kin0 1;fine1;fine", 4, 13);
        x.refusesText("kin0 1;saint0 0;saint0 0;most0 1;", 7, 33);
        x.refusesText("kin0 2;saint0 0;saint0 0;most0 1;", 6, 33);
        Run y = x.anew().refusesText(EIGHT + "calm~", 5, 80).refusesText(EIGHT + "cal~", 2, 80);
        y.refusesText("saint0 0;saint0 0;most0 1;most0 2;", 4, 30);
    }

    private void noToken() {
        Run x = s.ofTerms("1 no TOKEN, a NUMBER that is too long (its first byte).").told("saint7 1;");
        x.refusesText("fine100;", 1, 4).refusesText("fine 000;", 1, 5).refusesText("fine1 000;", 1, 6);
        x.refusesText("100", 1, 0).refusesText("fine1234567890123456789;", 1, 4);
        x.refusesText("fine1;~", 1, 6).refusesText("fine-1;", 1, 4).refusesText("fine1~;", 1, 5);
        x.refusesText("fine1;Fine", 1, 6).refusesText("fine1\n;", 1, 5).refusesText("~", 1, 0);
    }

    private void standsNot() {
        Run x = s.ofTerms("2 a TOKEN that can not stand there (a NAME that begins no line; or the end: "
                + "the length).").told("saint7 1;");
        x.refusesText("ten1;", 2, 0).refusesText("  ten1;", 2, 2).refusesText("fine1; a", 2, 7);
        x.refusesText("7;", 2, 0).refusesText(";", 2, 0).refusesText("fine fine", 2, 5);
        x.refusesText("fine1", 2, 5).refusesText("fine1   ", 2, 8).refusesText("fine", 2, 4);
        x.refusesText("fine1 fine2;", 2, 6).refusesText("fine1;2;", 2, 6);
    }

    private void outOfBounds() {
        Run x = s.ofTerms("3 a NUMBER out of its bounds (kin: the second one alike with the first one).");
        x.told("saint7 1;");
        x.refusesText("calm10 0 0;", 3, 4).refusesText("calm0 0 4;", 3, 8).refusesText("calm99 99 99", 3, 4);
        x.refusesText("quarrel10 0 0;", 3, 7).refusesText("quarrel0 0 4;", 3, 11);
        x.refusesText("saint0 4;", 3, 7).refusesText("wander10 0;", 3, 6).refusesText("watch10;", 3, 5);
        x.refusesText("most4 1;", 3, 4).refusesText("most0 0;", 3, 6).refusesText("most0 6;", 3, 6);
        x.refusesText("kin8 0;", 3, 3).refusesText("kin0 8;", 3, 5);
        x.refusesText("kin0 0;", 3, 5).refusesText("kin7 07;", 3, 5).refusesText("saint0 0;kin0 0;", 3, 14);
        x.told("saint1 0;saint2 0;kin0 1;kin1 0;").due("man(0, 4)", 2);
    }

    private void secondTime() {
        Run x = s.ofTerms("4 fine, watch for the second time (its NAME); a TEN of most told already (it).");
        x.told("fine1;watch1;most0 1;most1 1;most2 1;most3 1;").dueEach("ten(?, 1)", 1, 1, 1, 1);
        x.refusesText("fine1;fine1;", 4, 6).refusesText("fine1;watch2;  fine", 4, 15);
        x.refusesText("watch1;watch1;", 4, 7).refusesText("watch1;fine2;watch", 4, 13);
        for (int t = 0; t < 4; t++) {
            x.refusesText("most" + t + " 3;most" + t + " 3;", 4, 12);
        }
        x.refusesText("most0 1;most3 1;most0", 4, 20);
        // Each text is read by itself: what one has told, another may tell again.
        x.told("fine1;watch1;most0 1;most3 1;").told("fine1;watch1;most0 1;most3 1;");
    }

    private void ninthMan() {
        Run x = s.ofTerms("5 the 9th MAN (its NAME).").told(EIGHT).asks("rule(0)", 8);
        for (String name : new String[] {"calm", "quarrel", "saint", "wander"}) {
            x.anew().refusesText(EIGHT + name, 5, 80).refusesText(EIGHT + " " + name + "10", 5, 81);
        }
        x.told(EIGHT + "fine1;watch1;most0 1;kin0 1;").asks("rule(0)", 8).asks("rule(1)", 1);
    }

    private void noSuchMan() {
        Run x = s.ofTerms("Behind all (the length): 6 a MAN that there is not (kin);");
        x.refusesText("kin0 1;", 6, 7).refusesText("kin0 1;saint0 0;", 6, 16);
        x.refusesText("kin1 0;saint0 0;  ", 6, 18).refusesText("kin7 0;saint0 0;saint0 0;", 6, 25);
        x.told("kin0 1;saint0 0;saint0 0;").asks("man(0, 4)", 2);
        x.refusesText("saint0 0;saint0 0;kin1 2;", 6, 25).refusesText("saint0 0;saint0 0;kin2 1;", 6, 25);
        Run y = x.anew().told(EIGHT + "kin0 7;").due("man(7, 4)", 1);
        y.refusesText(EIGHT.substring(10) + "kin0 7;", 6, 77).told(EIGHT.substring(10) + "kin0 6;");
    }

    private void moreThanMost() {
        Run x = s.ofTerms("7 a TEN of more than MOST.");
        for (int t = 0; t < 4; t++) {
            String one = "saint0 " + t + ";";
            x.told(one.repeat(3)).refusesText(one.repeat(4), 7, 36);
            x = x.anew();
            x.told(one + "most" + t + " 1;").refusesText(one + one + "most" + t + " 1;", 7, 26);
            x.refusesText("most" + t + " 1;" + one + " " + one + " ", 7, 28);
            x = x.anew();
            x.told(one.repeat(5) + "most" + t + " 5;").refusesText(one.repeat(6) + "most" + t + " 5;", 7, 62);
            x = x.anew();
        }
        x.told("wander0 0;wander0 0;wander0 0;wander0 0;saint0 0;most0 1;most1 1;most2 1;most3 1;");
    }

    private void tellsAll() {
        Run x = s.ofTerms("A text that is taken tells all, in place of what there was; nobody is watched, "
                + "nothing is SEEN; IMAGES are gone.").busy();
        // pays() and the like are asked for ahead, so that nothing of them may be left either.
        x.does("pays(0, 2)", "fits(0)", "drift(3, 3, 0)").asks("count(4)", 2).due("text()", 1);
        x.dueEach("rule(?)", 1, 12, 2, 0, 0, 0).dueEach("count(?)", 1, 1, 9, 0, 0, 0, 4);
        x.dueEach("man(0, ?)", 2, 0, 9, 3, 0, 0).bad("man(?, 0)", 0, 0);
        x.dueEach("ten(?, 0)", 0, 0, 0, 1).dueEach("ten(?, 1)", 3, 3, 3, 3);
        x.refuses("back(0)", STATE).refuses("back(1)", STATE).dueEach("fits(?)", 1, 0, 0, 0, 0);
        x.told(EIGHT).dueEach("man(?, 4)", 0, 0, 0, 0, 0, 0, 0, 0);
        Run y = x.anew().told("saint1 0;saint1 0;").does("watch(0, true)", "year(0)", "see(1, 3)");
        y.told("").dueEach("rule(?)", 0, 12, 2, 0, 0, 0).due("count(3)", 0).due("fits(0)", 1);
    }
}
