/** What the document says of the text: promises 1 to 4, and of all counts: promise 21. */
final class TextSentences {
    private static final int LEAST = Integer.MIN_VALUE;
    private static final int GREATEST = Integer.MAX_VALUE;
    /** Something of everything, so that a change by a refused call would be seen. */
    private static final String SCHEMA = "A=IR?;B=TT;";
    private static final String MODEL = "#1=A(1,$);#2=A(1,$);#3=A(2,#1);#4=B('x','');";

    private TextSentences() {
    }

    static void test(SentencesTest s) {
        whatItIs(s);
        newObject(s);
        said(s);
        refusedWords(s);
        fullText(s);
        trimmed(s);
        characters(s);
        counts(s);
    }

    private static String signs(int many) {
        StringBuilder text = new StringBuilder();
        for (int i = 0; i < many; i++) {
            text.append((char) (32 + i % 95));
        }
        return text.toString();
    }

    private static void whatItIs(SentencesTest s) {
        Case c = s.of(1, "An object is used for at most 512 calls after it has been made").given(SCHEMA, MODEL);
        c.is("keep()", 4);
        while (c.callsMade() < 508) {
            c.is("count(2)", 4);
        }
        c.is("say(65)", 1).is("say(65)", 2).is("trim(1)", 1).is("charAt(0)", 65);
        Case d = s.of(6, "An object is used for at most 512 calls after it has been made").given(SCHEMA, "");
        while (d.callsMade() < 505) {
            d.is("write()", 0);
        }
        d.says("#1=A(1,$);#2=A(1,$);").is("read()", 2).is("join()", 1).is("line(0)", 1).is("line(1)", -1);
    }

    private static void newObject(SentencesTest s) {
        s.of(1, "An empty text, no kinds, no lines.")
                .is("count(0)", 0).is("count(1)", 0).is("count(2)", 0).is("count(3)", 0)
                .is("line(0)", -1).is("wrong(0, 0)", -1).is("ring(0)", -1).is("differs(0, 0)", -1)
                .refuses("charAt(0)").refuses("trim(1)").refuses("told(1, 0)").refuses("argument(1, 0, 0)")
                .refuses("item(1, 0, 0)").refuses("set(1, 0, 0)").refuses("from(1, 0)").refuses("place(1, 0)")
                .refuses("alike(1, 1)").refuses("told(0, 0)")
                .changesNothing("trim(0)", 0).changesNothing("say(0)", 0).changesNothing("schema()", 0)
                .changesNothing("read()", 0).changesNothing("write()", 0).changesNothing("keep()", 0)
                .changesNothing("join()", 0);
    }

    private static void said(SentencesTest s) {
        s.of(2, "Up to eight characters come behind the text: the bytes of word, the highest first,")
                .is("say(" + Due.word("ABCDEFGH") + ")", 8).text("ABCDEFGH")
                .is("say(" + Due.word("z") + ")", 9).text("ABCDEFGHz")
                .is("say(" + Due.word("12345 ~") + ")", 16).text("ABCDEFGHz12345 ~");
        s.of(2, "those that are 0 left out:")
                .is("say(0)", 0).text("")
                .is("say(" + 0x4100000000000042L + ")", 2).text("AB")
                .is("say(" + 0x4300000000000000L + ")", 3).text("ABC")
                .is("say(" + 0x0044004500460047L + ")", 7).text("ABCDEFG")
                .is("say(0)", 7).text("ABCDEFG");
        s.of(2, "how many characters it has.")
                .is("say(32)", 1).is("say(" + Due.word("  ") + ")", 3).is("count(0)", 3)
                .is("trim(2)", 1).is("say(" + Due.word("12345678") + ")", 9).text(" 12345678");
        Case all = s.of(2, "THE TEXT has characters 32 .. 126, 1200 at most.").says(signs(1200)).is("count(0)", 1200)
                .text(signs(1200));
        all.is("charAt(0)", 32).is("charAt(94)", 126).refusesByState("say(32)").refusesByState("say(126)")
                .refuses("say(31)").refuses("say(127)");
    }

    private static void refusedWords(SentencesTest s) {
        Case c = s.of(2, "Illegal argument: a byte is none of 0, 32 .. 126;").given(SCHEMA, MODEL).says("AB");
        int[] bytes = {1, 31, 127, 128, 160, 255};
        for (int shift = 0; shift < 64; shift += 8) {
            for (int b : bytes) {
                long others = Due.word("CDEFGHIJ") & ~(255L << shift);
                c.refuses("say(" + ((long) b << shift | others) + ")");
            }
        }
        c.refuses("say(-1)").refuses("say(" + Long.MIN_VALUE + ")").refuses("say(10)").text("AB");
        for (int shift = 0; shift < 64; shift += 8) {
            c.is("say(" + (32L << shift) + ")", 3 + shift / 4).is("say(" + (126L << shift) + ")", 4 + shift / 4);
        }
    }

    private static void fullText(SentencesTest s) {
        Case c = s.of(2, "illegal state: there would be more than 1200.").given(SCHEMA, MODEL).says(signs(1192));
        c.is("say(" + Due.word("12345678") + ")", 1200).refusesByState("say(65)")
                .refusesByState("say(" + Due.word("ABCDEFGH") + ")").refusesByState("say(" + (65L << 56) + ")")
                .is("say(0)", 1200);
        c.is("trim(1)", 1199).refusesByState("say(" + Due.word("AB") + ")").is("say(65)", 1200);
        c.is("trim(7)", 1193).refusesByState("say(" + Due.word("ABCDEFGH") + ")")
                .is("say(" + 0x4142434445464700L + ")", 1200).text(signs(1192) + "1ABCDEFG");
        c.is("trim(1200)", 0).is("say(65)", 1);
        s.of(2, "Illegal state: as told.").given(SCHEMA, MODEL).says(signs(1200)).refusesByState("say(65)")
                .changesNothing("read()", -2).changesNothing("schema()", -2).is("write()", 44).is("say(65)", 45);
        s.of(2, "Of several exceptions the one named first is thrown;").says(signs(1200))
                .refuses("say(" + (65L << 8 | 31) + ")").refuses("say(127)").refuses("say(-1)")
                .is("trim(7)", 1193).refuses("say(" + Due.word("ABCDEFG\u0001") + ")")
                .refusesByState("say(" + Due.word("ABCDEFGH") + ")");
    }

    private static void trimmed(SentencesTest s) {
        s.of(3, "The last n characters of the text go:").says("ABCDEFGHIJ").is("trim(3)", 7).text("ABCDEFG")
                .is("trim(0)", 7).text("ABCDEFG").says("XY").text("ABCDEFGXY").is("trim(9)", 0).text("")
                // What went is not read, either: neither a ' behind a ', nor a digit, nor a letter.
                .says("#1=A('a''").is("trim(1)", 8).is("read()", -9).is("trim(8)", 0)
                .says("#1=A(123456789").says("0").is("trim(1)", 14).is("read()", -15).says(");").is("read()", 1)
                .says("ABCDEFGH").says("I").is("trim(1)", 8).is("schema()", -9).says("=I;").is("schema()", 1);
        s.of(3, "how many it has.").says(signs(1200)).is("trim(0)", 1200).is("trim(1)", 1199).is("count(0)", 1199)
                .is("trim(1198)", 1).is("trim(1)", 0).is("trim(0)", 0).is("count(0)", 0);
        s.of(3, "Illegal argument: n is below 0, or more than there are.").refuses("trim(1)").refuses("trim(-1)")
                .given(SCHEMA, MODEL).says("ABC").refuses("trim(-1)").refuses("trim(" + LEAST + ")")
                .refuses("trim(4)").refuses("trim(" + GREATEST + ")").is("trim(3)", 0).refuses("trim(1)")
                .given("", "").says(signs(1200)).refuses("trim(1201)").is("trim(1200)", 0);
    }

    private static void characters(SentencesTest s) {
        s.of(4, "A character of the text.").says("A ~").is("charAt(0)", 65).is("charAt(1)", 32).is("charAt(2)", 126)
                .given(SCHEMA, MODEL).is("write()", 44).is("charAt(0)", 35).is("charAt(43)", 59)
                .given("", "").says(signs(1200)).is("charAt(1199)", 32 + 1199 % 95);
        s.of(4, "Illegal argument: there is none such.").refuses("charAt(0)").refuses("charAt(-1)")
                .given(SCHEMA, MODEL).says("ABC").refuses("charAt(-1)").refuses("charAt(3)")
                .refuses("charAt(" + LEAST + ")").refuses("charAt(" + GREATEST + ")")
                .is("trim(1)", 2).refuses("charAt(2)").is("charAt(1)", 66)
                .given("", "").says(signs(1200)).refuses("charAt(1200)").is("trim(1200)", 0)
                .refuses("charAt(0)");
    }

    private static void counts(SentencesTest s) {
        StringBuilder kinds = new StringBuilder();
        for (char name = 'A'; name <= 'L'; name++) {
            kinds.append(name).append("=I;");
        }
        StringBuilder lines = new StringBuilder();
        for (int i = 1; i <= 40; i++) {
            lines.append("#" + i + "=A(1);");
        }
        s.of(21, "How many there are: what = 0 characters of the text, 1 kinds, 2 lines, 3 lines kept.")
                .given(SCHEMA, MODEL).is("count(0)", 0).is("count(1)", 2).is("count(2)", 4).is("count(3)", 0)
                .is("keep()", 4).is("count(3)", 4).is("join()", 1).is("count(2)", 3).is("count(3)", 4)
                .is("keep()", 3).is("count(3)", 3).is("read()", 0).is("count(2)", 0).is("count(3)", 3)
                .given(kinds.toString(), lines.toString()).is("keep()", 40).says(signs(1200))
                .is("count(0)", 1200).is("count(1)", 12).is("count(2)", 40).is("count(3)", 40);
        s.of(21, "Illegal argument.").refuses("count(-1)").refuses("count(4)").given(SCHEMA, MODEL).says("AB")
                .refuses("count(-1)").refuses("count(4)").refuses("count(" + LEAST + ")")
                .refuses("count(" + GREATEST + ")");
    }
}
