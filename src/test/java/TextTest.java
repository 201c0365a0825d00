/** Promises 1 to 4, and 21: a new object, say, trim, charAt, count. */
public final class TextTest {
    public static void main(String[] args) {
        Due due = new Due();
        newObject(due);
        say(due);
        fullText(due);
        trim(due);
        charAt(due);
        count(due);
        due.end();
    }

    private static void newObject(Due due) {
        ExchangeText x = new ExchangeText();
        for (int what = 0; what < 4; what++) {
            int w = what;
            due.is("new count " + what, 0, () -> x.count(w));
        }
        due.is("new line", ExchangeText.NONE, () -> x.line(0));
        due.bad("new told", () -> x.told(1, 0));
        due.is("new differs", ExchangeText.NONE, () -> x.differs(0, 0));
        due.is("new join", 0, x::join);
        due.is("new write", 0, x::write);
        due.is("new keep", 0, x::keep);
        due.is("new read", 0, x::read);
        due.is("new schema", 0, x::schema);
        due.is("NONE", -1, () -> ExchangeText.NONE);
        due.is("LONG", -2, () -> ExchangeText.LONG);
        due.is("RING", 1000000000000L, () -> ExchangeText.RING);
    }

    private static void say(Due due) {
        ExchangeText x = new ExchangeText();
        due.is("say 0", 0, () -> x.say(0));
        due.is("say eight", 8, () -> x.say(Due.word("ABCDEFGH")));
        due.is("say with gaps", 10, () -> x.say(0x0041000000420000L));
        due.is("say the edges", 12, () -> x.say(0x207EL));
        due.bad("say 31", () -> x.say(31));
        due.bad("say 127", () -> x.say(0x41007FL));
        due.bad("say 128 highest", () -> x.say(0x8000000000000041L));
        due.bad("say 255", () -> x.say(-1L));
        due.bad("say 1 highest", () -> x.say(0x0141414141414141L));
        due.answers("the text", "ABCDEFGHAB ~", Due.text(x));
    }

    private static void fullText(Due due) {
        ExchangeText x = new ExchangeText();
        for (int i = 0; i < 149; i++) {
            x.say(Due.word("ABCDEFGH"));
        }
        x.say(Due.word("xyz"));
        due.is("1195 characters", 1195, () -> x.count(0));
        due.badState("six more", () -> x.say(Due.word("123456")));
        due.bad("illegal argument is named first", () -> x.say(Due.word("123456\u0007")));
        due.is("still 1195", 1195, () -> x.count(0));
        due.is("five more", 1200, () -> x.say(Due.word("12345")));
        due.badState("one more", () -> x.say(65));
        due.bad("a bad one more", () -> x.say(127));
        due.is("none more", 1200, () -> x.say(0));
        due.is("the last one", '5', () -> x.charAt(1199));
        due.bad("behind it", () -> x.charAt(1200));
        due.is("all go", 0, () -> x.trim(1200));
    }

    private static void trim(Due due) {
        ExchangeText x = new ExchangeText();
        Due.say(x, "ABC");
        due.is("trim 0", 3, () -> x.trim(0));
        due.bad("trim -1", () -> x.trim(-1));
        due.bad("trim least", () -> x.trim(Integer.MIN_VALUE));
        due.bad("trim 4", () -> x.trim(4));
        due.is("trim 2", 1, () -> x.trim(2));
        due.answers("what is left", "A", Due.text(x));
        Due.say(x, "Z");
        due.answers("said behind it", "AZ", Due.text(x));
        due.is("trim all", 0, () -> x.trim(2));
        due.bad("trim of none", () -> x.trim(1));
    }

    private static void charAt(Due due) {
        ExchangeText x = new ExchangeText();
        due.bad("charAt of none", () -> x.charAt(0));
        Due.say(x, "A ~");
        due.is("charAt 0", 65, () -> x.charAt(0));
        due.is("charAt 1", 32, () -> x.charAt(1));
        due.is("charAt 2", 126, () -> x.charAt(2));
        due.bad("charAt 3", () -> x.charAt(3));
        due.bad("charAt -1", () -> x.charAt(-1));
        x.trim(1);
        due.bad("charAt of what went", () -> x.charAt(2));
    }

    private static void count(Due due) {
        ExchangeText x = Due.with("A=I;B=T;", "#1=A(1);#2=A(2);#3=A(3);");
        x.keep();
        Due.say(x, "#1=A(1);");
        x.read();
        Due.say(x, "12345");
        due.is("characters", 5, () -> x.count(0));
        due.is("kinds", 2, () -> x.count(1));
        due.is("lines", 1, () -> x.count(2));
        due.is("lines kept", 3, () -> x.count(3));
        due.bad("count -1", () -> x.count(-1));
        due.bad("count 4", () -> x.count(4));
    }
}
