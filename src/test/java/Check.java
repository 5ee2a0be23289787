/** What the tests share: objects made from a text, and answers compared with those that are due. */
final class Check {
    private int wrong;
    private int calls;

    void due(String call, long got, long want) {
        calls++;
        if (got != want) {
            wrong++;
            System.out.println(call + " answered " + got + ", due is " + want);
        }
    }

    /** Ends the test: exit code 1 if an answer was not as due. */
    void finish() {
        System.out.println(calls + " answers, " + wrong + " not as due");
        if (wrong != 0) {
            System.exit(1);
        }
    }

    /** Feeds a text to an object, letter by letter; what the last feed() answered. */
    static int feed(TenPledges x, String text) {
        int last = 0;
        for (int i = 0; i < text.length(); i++) {
            last = x.feed(text.charAt(i));
        }
        return last;
    }

    /** A new object that a text has told all. */
    TenPledges told(String text) {
        TenPledges x = new TenPledges();
        feed(x, text);
        int lines = x.text();
        if (lines < 0) {
            wrong++;
            System.out.println("the text '" + text + "' was refused with " + lines);
        }
        return x;
    }

    /** A text that is refused: its FAULT and its place; what was told before stays. */
    void refused(String text, int fault, int place) {
        TenPledges x = told("calm 5 6 1;");
        x.keep(1);
        feed(x, text);
        due("text() of '" + text + "'", x.text(), -10 - place);
        due("fault() of '" + text + "'", x.fault(), fault);
        due("count(5) behind '" + text + "'", x.count(5), 0);
        due("rule(0) behind '" + text + "'", x.rule(0), 1);
        due("man(0, 2) behind '" + text + "'", x.man(0, 2), 6);
        due("ten(1, 0) behind '" + text + "'", x.ten(1, 0), 1);
        due("count(4) behind '" + text + "'", x.count(4), 1);
    }
}
