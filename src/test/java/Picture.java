import java.util.ArrayList;
import java.util.HashMap;
import java.util.List;
import java.util.Map;

/**
 * All that an object behind some calls can be asked for, so that two can be held side by side. What
 * shows only by a change (the bytes of THE TAPE, IMAGES, CELLS, each SEEN) is asked of objects made
 * anew by the same calls.
 */
final class Picture {
    private static final Map<List<String>, List<String>> TAKEN = new HashMap<>();

    private final List<String> answers = new ArrayList<>();
    private Talk talk;

    static List<String> of(List<String> history) {
        List<String> taken = TAKEN.get(history);
        if (taken == null) {
            taken = new Picture().take(history);
            TAKEN.put(new ArrayList<>(history), taken);
        }
        return taken;
    }

    private List<String> take(List<String> history) {
        talk = Talk.behind(history);
        askAll();
        talk = Talk.behind(history);
        askSeen();
        talk = Talk.behind(history);
        askSheets();
        talk = Talk.behind(history);
        askImages();
        talk = Talk.behind(history);
        askTape();
        return answers;
    }

    private long ask(String call) {
        long answer = talk.ask(call);
        answers.add(call + " answers " + answer);
        return answer;
    }

    private void askEach(String call, int first, int last) {
        for (int i = first; i <= last; i++) {
            ask(call.replace("?", "" + i));
        }
    }

    private void askTold() {
        askEach("rule(?)", 0, 5);
        askEach("count(?)", 0, 6);
        for (int t = 0; t < 4; t++) {
            askEach("ten(" + t + ", ?)", 0, 3);
        }
        long men = talk.ask("rule(0)");
        for (int m = 0; m < men; m++) {
            askEach("man(" + m + ", ?)", 0, 5);
        }
    }

    private void askAll() {
        ask("fault()");
        ask("torn()");
        askTold();
        ask("harm()");
        askEach("fits(?)", 0, 4);
        ask("best(0)");
        ask("change(0)");
        ask("guard(0)");
        ask("drift(7, 9, 0)");
        ask("drift(7, 9, 1)");
        long men = talk.ask("rule(0)");
        for (int m = 0; m < men; m++) {
            for (String call : new String[] {"mean(?, 0)", "best(1?)", "takes(?)", "weight(?)", "should(?)",
                "worth(?)"}) {
                askEach(call, m, m);
            }
        }
    }

    private void askSeen() {
        for (long n = talk.ask("count(3)"); n >= 0; n--) {
            ask("forget(" + n + ")");
            askEach("fits(?)", 0, 4);
        }
        ask("year(0)");
    }

    private void askSheets() {
        for (int k = 0; k < 4; k++) {
            for (int lane = 0; lane < 3; lane++) {
                String from = "read(" + k + ", " + lane + ", ";
                for (String call : new String[] {"0, 20)", "0, 1)", "1, 1)", "2, 1)", "4, 1)"}) {
                    ask(from + call);
                    ask("torn()");
                }
                askEach("ten(?, 0)", 0, 3);
            }
        }
    }

    private void askImages() {
        for (int k = 0; k < 2; k++) {
            ask("back(" + k + ")");
            askTold();
            askEach("fits(?)", 0, 4);
        }
    }

    private void askTape() {
        ask("text()");
        ask("fault()");
        askTold();
    }
}
