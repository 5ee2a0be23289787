import java.util.ArrayList;
import java.util.List;
import java.util.Set;

/** A run of calls on one new object, by which a sentence of the document is tried. */
final class Run {
    private static final Set<String> QUESTIONS = Set.of("fault", "rule", "man", "ten", "pays", "harm",
            "calm", "mean", "best", "change", "takes", "weight", "should", "guard", "worth", "fits",
            "drift", "torn", "count");
    private static final String BUSY_TEXT = "quarrel4 50 0;quarrel3 30 0;calm5 40 1;saint20 1;wander6 60;"
            + "calm2 10 2;kin0 2;fine10;watch3;most0 2;most3 1;";
    private static final String[] BUSY_CALLS = {"watch(0, true)", "year(4)", "see(3, 10)", "keep(0)",
        "law(0, 11)", "see(1, 5)", "watch(2, true)", "keep(1)", "goods(5, 25)", "odd(5, 7)",
        "sheet(0, 0, 4)", "lay(0, 0, 5)", "lay(0, 1, 3)", "lay(0, 2, 2)", "lay(0, 3, 2)",
        "sheet(1, 1, 3)", "lay(1, 1, 2)", "sheet(2, 2, 0)", "read(3, 0, 0, 1)", "feed(120)", "text()"};

    private final Check c;
    private final String sentence;
    private final Talk talk = new Talk();
    // Without questions, and without what was refused: these change nothing.
    private final List<String> history = new ArrayList<>();

    Run(Check c, String sentence) {
        this.c = c;
        this.sentence = sentence;
    }

    /** Another new object for the same sentence. */
    Run anew() {
        return new Run(c, sentence);
    }

    /** Makes calls whose answers are not looked at. */
    Run does(String... calls) {
        for (String call : calls) {
            ask(call);
        }
        return this;
    }

    Run feeds(String text) {
        for (int i = 0; i < text.length(); i++) {
            ask("feed(" + (int) text.charAt(i) + ")");
        }
        return this;
    }

    /** Tells a text, which has to be taken. */
    Run told(String text) {
        long lines = feeds(text).ask("text()");
        c.due(sentence + ": '" + text + "' is taken", lines < 0 ? lines : 0, 0);
        return this;
    }

    /**
     * All that can be is other than in a new object: 0 and 1 quarrelsome in TEN 0, which has MOST (2);
     * 2 calm, 3 a saint in TEN 1; 4 a wanderer; 5 calm in TEN 2; nobody in TEN 3 (MOST 1). FINE is
     * 11, COST 3, YEAR 1; 0 and 2 are KIN and watched; two are SEEN; two IMAGES; THE TAPE has 9 bytes.
     */
    Run busy() {
        return told(BUSY_TEXT).does(BUSY_CALLS).feeds("saint9 3;");
    }

    Run due(String call, long want) {
        c.due(named(call), ask(call), want);
        return this;
    }

    /** One call for each answer that is due, ? being 0, 1, 2 .. */
    Run dueEach(String call, long... wants) {
        for (int i = 0; i < wants.length; i++) {
            due(call.replace("?", "" + i), wants[i]);
        }
        return this;
    }

    /** A call that answers so and changes nothing, since it only asks. */
    Run asks(String call, long want) {
        return still(call, want);
    }

    /** A call that answers so and changes nothing, since it is refused. */
    Run refuses(String call, long want) {
        return still(call, want);
    }

    /** Out of these bounds, ? is BAD, next to them and as far away as may be. */
    Run bad(String call, int lowest, int highest) {
        for (int v : new int[] {lowest - 1, highest + 1, Integer.MIN_VALUE, Integer.MAX_VALUE}) {
            refuses(call.replace("?", "" + v), TenPledges.BAD);
        }
        return this;
    }

    /** A text of one FAULT: all that was told stays, THE TAPE is empty then. */
    Run refusesText(String text, int fault, int place) {
        List<String> before = new ArrayList<>(history);
        before.add("end(0)");
        feeds(text);
        due("text()", -10 - place);
        c.due(sentence + ": fault() of '" + text + "'", ask("fault()"), fault);
        compare("text() of '" + text + "'", withoutFault(before), withoutFault(history));
        return this;
    }

    private Run still(String call, long want) {
        List<String> with = new ArrayList<>(history);
        with.add(call);
        c.due(named(call), talk.ask(call), want);
        c.due(named(call) + " on an object made anew", Talk.behind(history).ask(call), want);
        compare(call, Picture.of(history), Picture.of(with));
        return this;
    }

    private void compare(String call, List<String> before, List<String> behind) {
        int differ = before.size() == behind.size() ? 0 : 1;
        for (int i = 0; i < before.size() && differ == 0; i++) {
            if (!before.get(i).equals(behind.get(i))) {
                System.out.println("ahead: " + before.get(i) + "; behind: " + behind.get(i));
                differ = 1;
            }
        }
        c.due(named(call) + " changes nothing: differences", differ, 0);
    }

    /** The first answer of a picture is fault(), which a text changes that is refused, too. */
    private static List<String> withoutFault(List<String> calls) {
        List<String> picture = Picture.of(calls);
        return picture.subList(1, picture.size());
    }

    private long ask(String call) {
        if (!QUESTIONS.contains(call.substring(0, call.indexOf('(')))) {
            history.add(call);
        }
        return talk.ask(call);
    }

    private String named(String call) {
        return sentence + ": " + call;
    }
}
