import java.util.ArrayList;
import java.util.List;

/**
 * All that an object tells behind some calls. It is asked of copies, objects on which the same calls
 * were made, and of a new one whenever the last was used for as many calls as the document allows.
 */
final class State {
    static final int MOST_CALLS = 512;
    private static final String[] NAMES = {"A", "B", "C", "D", "E", "F", "G", "H", "I", "J", "K", "L", "M", "OLD"};

    private final List<String> calls;
    private final List<String> told = new ArrayList<>();
    private ExchangeText copy;
    private int made;

    private State(List<String> calls) {
        this.calls = calls;
        renew();
    }

    static List<String> behind(List<String> calls) {
        State state = new State(calls);
        state.askAll();
        state.askKinds();
        state.askKept();
        return state.told;
    }

    static String textBehind(List<String> calls) {
        State state = new State(calls);
        StringBuilder text = new StringBuilder();
        int length = state.ask("count(0)");
        for (int i = 0; i < length; i++) {
            text.append((char) state.ask("charAt(" + i + ")"));
        }
        return text.toString();
    }

    private void renew() {
        copy = new ExchangeText();
        for (String call : calls) {
            Calls.outcome(copy, call);
        }
        made = calls.size();
    }

    private int ask(String call) {
        if (made == MOST_CALLS) {
            renew();
        }
        if (made == MOST_CALLS) {
            throw new IllegalStateException("the test's own run leaves no call to ask by");
        }
        made++;
        String answer = Calls.outcome(copy, call);
        told.add(call + " = " + answer);
        return answer.startsWith("throws.") || answer.length() > 10 ? ExchangeText.NONE : Integer.parseInt(answer);
    }

    /** Asks for k = 0 and on until there is none such; a model has 40 lines, two have 80, at most. */
    private void askEach(String beforeK, String behindK) {
        int k = 0;
        while (k <= 80 && ask(beforeK + k + behindK) != ExchangeText.NONE) {
            k++;
        }
    }

    private void askAll() {
        for (int what = 0; what < 4; what++) {
            ask("count(" + what + ")");
        }
        int length = ask("count(0)");
        for (int i = 0; i < length; i++) {
            ask("charAt(" + i + ")");
        }
        int lines = ask("count(2)");
        int[] numbers = new int[lines];
        for (int p = 0; p < lines; p++) {
            numbers[p] = ask("line(" + p + ")");
        }
        for (int number : numbers) {
            askLine(number);
            for (int other : numbers) {
                ask("alike(" + number + ", " + other + ")");
            }
        }
        askEach("ring(", ")");
        askEach("wrong(", ", 0)");
        askEach("wrong(", ", 1)");
        askEach("differs(", ", 0)");
        askEach("differs(", ", 1)");
    }

    private void askLine(int number) {
        for (int what = 0; what < 4; what++) {
            ask("told(" + number + ", " + what + ")");
        }
        int size = ask("told(" + number + ", 1)");
        for (int k = 0; k < size; k++) {
            ask("argument(" + number + ", " + k + ", 0)");
            ask("argument(" + number + ", " + k + ", 1)");
            // They end where the call is refused; an item may be any number, so NONE ends nothing.
            for (int i = 0; i <= 20; i++) {
                ask("item(" + number + ", " + k + ", " + i + ")");
            }
        }
        for (int axis = 0; axis < 3; axis++) {
            ask("place(" + number + ", " + axis + ")");
        }
        askEach("from(" + number + ", ", ")");
    }

    /** Kinds that no line has are seen when lines with their names are read. */
    private void askKinds() {
        String[] arguments = {"1", "$", "'',$"};
        for (String argument : arguments) {
            renew();
            ask("trim(" + ask("count(0)") + ")");
            for (int i = 0; i < NAMES.length; i++) {
                for (String part : new String[] {"#" + (i + 1) + "=", NAMES[i], "(" + argument + ");"}) {
                    ask("say(" + Due.word(part) + ")");
                }
            }
            ask("read()");
            for (int i = 0; i < NAMES.length; i++) {
                ask("told(" + (i + 1) + ", 0)");
                ask("wrong(" + i + ", 0)");
                ask("wrong(" + i + ", 1)");
                ask("wrong(" + i + ", 2)");
            }
        }
    }

    /** Lines that are kept are all seen when no line is left. */
    private void askKept() {
        renew();
        ask("trim(" + ask("count(0)") + ")");
        ask("read()");
        askEach("differs(", ", 0)");
    }
}
