import java.util.ArrayList;
import java.util.List;

/** One sentence of the document, with the calls on new objects that show whether it holds. */
final class Case {
    private static final String BAD = "throws.IllegalArgumentException";
    private static final String BAD_STATE = "throws.IllegalStateException";

    private final Due due;
    private final String title;
    private List<String> calls = new ArrayList<>();
    private ExchangeText x = new ExchangeText();

    Case(Due due, String title) {
        this.due = due;
        this.title = title;
    }

    /** From here on a new object with these kinds and lines, both of which must be right. */
    Case given(String schema, String model) {
        calls = new ArrayList<>();
        x = new ExchangeText();
        if (!schema.isEmpty()) {
            says(schema).must("schema()");
        }
        if (!model.isEmpty()) {
            says(model).must("read()");
        }
        return this;
    }

    Case says(String text) {
        for (int i = 0; i < text.length(); i += 8) {
            must("say(" + Due.word(text.substring(i, Math.min(text.length(), i + 8))) + ")");
        }
        return this;
    }

    private void must(String call) {
        String answer = make(call);
        if (answer.startsWith("throws.") || answer.startsWith("-")) {
            due.answers(title + ": " + call, "an answer", answer);
        }
    }

    private String make(String call) {
        calls.add(call);
        if (calls.size() > State.MOST_CALLS) {
            throw new IllegalStateException("the test uses an object for too many calls: " + title);
        }
        return Calls.outcome(x, call);
    }

    int callsMade() {
        return calls.size();
    }

    Case is(String call, long want) {
        due.answers(title + ": " + call, Long.toString(want), make(call));
        return this;
    }

    /** The call throws illegal argument and changes nothing. */
    Case refuses(String call) {
        return changesNothing(call, BAD);
    }

    /** The call throws illegal state and changes nothing. */
    Case refusesByState(String call) {
        return changesNothing(call, BAD_STATE);
    }

    Case changesNothing(String call, long want) {
        return changesNothing(call, Long.toString(want));
    }

    private Case changesNothing(String call, String want) {
        List<String> before = State.behind(calls);
        due.answers(title + ": " + call, want, make(call));
        due.answers(title + ": what " + call + " changed", "nothing", firstOther(before, State.behind(calls)));
        return this;
    }

    private static String firstOther(List<String> before, List<String> after) {
        for (int i = 0; i < before.size() && i < after.size(); i++) {
            if (!before.get(i).equals(after.get(i))) {
                return before.get(i) + " became " + after.get(i);
            }
        }
        return before.size() == after.size() ? "nothing" : "how much is told";
    }

    Case text(String want) {
        due.answers(title + ": the text", want, State.textBehind(calls));
        return this;
    }

    /** The calls name(0 + more) and on answer these one by one, and then NONE. */
    Case row(String name, String more, long... want) {
        for (int k = 0; k < want.length; k++) {
            is(name + "(" + k + more + ")", want[k]);
        }
        return is(name + "(" + want.length + more + ")", ExchangeText.NONE);
    }

    /** Read by "schema" or "read" on a new object, the text is right and has so many kinds or lines. */
    Case right(String reader, int many, String text) {
        boolean ofKinds = reader.equals("schema");
        return given("OLD=I;B=T?;", "#1=OLD(1);#2=B(#1);").says(text).is(reader + "()", many)
                .is("count(" + (ofKinds ? 1 : 2) + ")", many).is("count(" + (ofKinds ? 2 : 1) + ")", 2)
                .is("count(0)", 0);
    }

    /** The wrong place is shown by a mark ^ that is taken out of the text. */
    Case wrongAt(String reader, String marked) {
        return given("OLD=I;B=T?;", "#1=OLD(1);#2=B(#1);").says(marked.replace("^", ""))
                .changesNothing(reader + "()", -1 - marked.indexOf('^'));
    }
}
