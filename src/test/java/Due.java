/** What the tests share: texts are said, answers compared, refusals told by their exception's name. */
final class Due {
    /** A call that may throw. */
    interface Call {
        long answer();
    }

    private int wrong = 0;
    private int asked = 0;

    void is(String what, long want, Call call) {
        answers(what, Long.toString(want), outcome(call));
    }

    /** The call must answer illegal argument. */
    void bad(String what, Call call) {
        answers(what, "throws.IllegalArgumentException", outcome(call));
    }

    /** The call must answer illegal state. */
    void badState(String what, Call call) {
        answers(what, "throws.IllegalStateException", outcome(call));
    }

    void answers(String what, String want, String got) {
        asked++;
        if (!want.equals(got)) {
            wrong++;
            System.out.println(what + " answered " + got + ", due is " + want);
        }
    }

    static String outcome(Call call) {
        try {
            return Long.toString(call.answer());
        } catch (RuntimeException e) {
            return "throws." + e.getClass().getSimpleName();
        }
    }

    /** Ends the test: exit code 1 if an answer was not the one that is due. */
    void end() {
        System.out.println(asked + " answers, " + wrong + " not as due");
        if (wrong != 0 || asked == 0) {
            System.exit(1);
        }
    }

    static long one(boolean b) {
        return b ? 1 : 0;
    }

    static long word(String letters) {
        long word = 0;
        for (int i = 0; i < letters.length(); i++) {
            word = word << 8 | letters.charAt(i);
        }
        return word;
    }

    static void say(ExchangeText x, String text) {
        for (int i = 0; i < text.length(); i += 8) {
            x.say(word(text.substring(i, Math.min(text.length(), i + 8))));
        }
    }

    static String text(ExchangeText x) {
        StringBuilder text = new StringBuilder();
        for (int i = 0; i < x.count(0); i++) {
            text.append((char) x.charAt(i));
        }
        return text.toString();
    }

    /** A new object with these kinds and lines, both of which must be right. */
    static ExchangeText with(String schema, String model) {
        ExchangeText x = new ExchangeText();
        say(x, schema);
        int kinds = x.schema();
        say(x, model);
        int lines = x.read();
        if (kinds < 0 || lines < 0) {
            throw new IllegalStateException("the test's own texts are wrong: " + kinds + ", " + lines);
        }
        return x;
    }

    /** Of a text read as a schema (or model) by a new object: the answer; it must change nothing if negative. */
    int reads(boolean schema, String text) {
        ExchangeText x = with("OLD=I;", "#1=OLD(1);#2=OLD(2);");
        say(x, text);
        int answer = schema ? x.schema() : x.read();
        if (answer < 0) {
            answers("text behind a refused " + text, text, text(x));
            is("kinds behind a refused " + text, 1, () -> x.count(1));
            is("kind behind a refused " + text, 0, () -> x.told(1, 0));
            is("lines behind a refused " + text, 2, () -> x.count(2));
            is("line behind a refused " + text, 2, () -> x.argument(2, 0, 1));
        } else {
            is("text behind " + text, 0, () -> x.count(0));
            is("how many of " + text, answer, () -> x.count(schema ? 1 : 2));
            is("the others of " + text, schema ? 2 : 1, () -> x.count(schema ? 2 : 1));
        }
        return answer;
    }

    void schema(int want, String text) {
        is("schema of " + text, want, () -> reads(true, text));
    }

    void model(int want, String text) {
        is("read of " + text, want, () -> reads(false, text));
    }

    /** The wrong place is shown by a mark ^ that is taken out of the text. */
    void schemaWrongAt(String marked) {
        schema(-1 - marked.indexOf('^'), marked.replace("^", ""));
    }

    void modelWrongAt(String marked) {
        model(-1 - marked.indexOf('^'), marked.replace("^", ""));
    }
}
