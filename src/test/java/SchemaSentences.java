/** What the document says of schemas: promise 5, and what of the terms bears on it. */
final class SchemaSentences {
    private static final String TWELVE = "A=I;B=I;C=I;D=I;E=I;F=I;G=I;H=I;I=I;J=I;K=I;L=I;";

    private SchemaSentences() {
    }

    static void test(SentencesTest s) {
        answers(s);
        grammar(s);
        words(s);
        wrongPlaces(s);
    }

    private static void answers(SentencesTest s) {
        s.of(5, "The text is read as a schema: how many kinds, which are the kinds then, and the text is empty;")
                .given("OLD=I;", "#1=OLD(1);#2=A(1);#3=B(1,'');")
                .says("A=I;B=IT;").is("schema()", 2).is("count(0)", 0).is("count(1)", 2).is("count(2)", 3)
                .is("told(1, 0)", -1).is("told(2, 0)", 0).is("told(3, 0)", 1).row("wrong", ", 0", 1)
                .is("schema()", 0).is("count(1)", 0).is("told(2, 0)", -1).row("wrong", ", 0", 1, 2, 3)
                .says("OLD=I;").is("schema()", 1).is("told(1, 0)", 0).is("told(2, 0)", -1)
                .says("   ").is("schema()", 0).is("count(0)", 0).is("count(1)", 0);
        s.of(5, "or -1 less the wrong place, changing nothing.")
                .wrongAt("schema", "A=I;B=^X;").wrongAt("schema", "^?").wrongAt("schema", "A=I;C=I;^A=I;")
                .wrongAt("schema", " ".repeat(1199) + "^?").wrongAt("schema", " ".repeat(1199) + "A^")
                .given("", "").says("A=I;B=").is("schema()", -7).text("A=I;B=").says("I;").is("schema()", 2);
    }

    private static void grammar(SentencesTest s) {
        s.of(5, "A SCHEMA is a row of KINDS, 12 at most:")
                .right("schema", 0, "").right("schema", 1, "A=I;").right("schema", 12, TWELVE)
                .right("schema", 12, TWELVE + "  ").wrongAt("schema", TWELVE + "^M=I;")
                .wrongAt("schema", TWELVE + "  ^M");
        s.of(5, "NAME = SORTS ; with 1 .. 8 sorts, each a letter:")
                .right("schema", 1, "A=I;").right("schema", 1, "A=ITRLMEIT;").right("schema", 2, "I=I;T=TTTTTTTT;")
                .wrongAt("schema", "A=^;").wrongAt("schema", "A=ITRLMEIT^I;").wrongAt("schema", "A=I;B=^;")
                .wrongAt("schema", "A^;").wrongAt("schema", "^=I;").wrongAt("schema", "A=I^");
        s.of(5, "No name is told twice.")
                .right("schema", 3, "A=I;AA=I;AAA=I;").wrongAt("schema", "A=I;^A=I;")
                .wrongAt("schema", "ABCDEFGH=I;B=T; ^ABCDEFGH=T;").right("schema", 2, "ABCDEFGH=I;ABCDEFGI=I;");
        s.of(14, "I a NUMBER, T a TEXT, R a REFERENCE, L a list of numbers, M a list of references, E a WORD;")
                .given("A=I;B=T;C=R;D=L;E=M;F=E;", everySort())
                .row("wrong", ", 0", 2, 3, 4, 5, 6, 7, 9, 10, 11, 12, 13, 14, 16, 17, 18, 19, 20, 21, 23, 24, 25, 26,
                        27, 28, 30, 31, 32, 33, 34, 35);
        s.of(14, "behind it perhaps a ? (it may be NOTHING, too).").right("schema", 1, "A=I?;")
                .right("schema", 1, "A=I?T?R?L?M?E?I?T?;").wrongAt("schema", "A=I?^?;").wrongAt("schema", "A=^?;")
                .wrongAt("schema", "A=^?I;")
                .given("A=I?T?R?L?M?E?I?T?;B=ITRLMEIT;C=II?;", "#1=A($,$,$,$,$,$,$,$);"
                        + "#2=A(1,'',#1,(1),(#1),.X.,1,'');#3=B($,$,$,$,$,$,$,$);#4=C(1,$);#5=C($,1);")
                .row("wrong", ", 0", 3, 5).row("wrong", ", 2", 0, 0);
    }

    /** Lines 1 to 36: of six kinds with one sort each, every kind with an argument of every sort. */
    private static String everySort() {
        String[] arguments = {"1", "''", "#1", "(1)", "(#1)", ".X."};
        StringBuilder text = new StringBuilder();
        for (int kind = 0; kind < 6; kind++) {
            for (int sort = 0; sort < 6; sort++) {
                text.append("#" + (6 * kind + sort + 1) + "=" + (char) ('A' + kind) + "(" + arguments[sort] + ");");
            }
        }
        return text.toString();
    }

    private static void words(SentencesTest s) {
        s.of(5, "Blanks may stand between its words, and count for nothing.")
                .right("schema", 2, "  A  =  I  ?  T  ;  BC  =  M  ;  ").right("schema", 0, " ".repeat(1200))
                .wrongAt("schema", "A ^A=I;").wrongAt("schema", "   ^;");
        s.of(5, "WORDS are: a NAME (1 .. 8 letters A .. Z),")
                .right("schema", 2, "ABCDEFGH=I;Z=I;").wrongAt("schema", "^ABCDEFGHI=I;").wrongAt("schema", "A^b=I;")
                .wrongAt("schema", "^a=I;").wrongAt("schema", "^@=I;").wrongAt("schema", "^[=I;");
        s.of(5, "sorts are one letter each.").right("schema", 1, "A=ITRLMEIT;").right("schema", 1, "A=I T RL MEIT;")
                .wrongAt("schema", "A=ITRLMEIT^ITR;").given("", "").says("A=ITRLMEIT;").is("schema()", 1)
                .says("#1=A(1,'',#1,(),(),.X.,1,'');").is("read()", 1).row("wrong", ", 0");
    }

    private static void wrongPlaces(SentencesTest s) {
        s.of(5, "THE WRONG PLACE is where the first word begins that cannot stand where it stands:")
                .wrongAt("schema", "A=^X;B=X;").wrongAt("schema", "  ^,A=X").wrongAt("schema", "A=I;^A=X;")
                .wrongAt("schema", "A=I;^ABCDEFGHI").wrongAt("schema", "A=I  ^A");
        s.of(5, "another one was to come,").wrongAt("schema", "^1=I;").wrongAt("schema", "^#1=A(1);")
                .wrongAt("schema", "^'A'=I;").wrongAt("schema", "^;").wrongAt("schema", "A ^B=I;")
                .wrongAt("schema", "A^1=I;").wrongAt("schema", "A^,").wrongAt("schema", "A=^=I;")
                .wrongAt("schema", "A=^1;").wrongAt("schema", "A=I^=I;").wrongAt("schema", "A=I^,T;")
                .wrongAt("schema", "A=I?^(;").wrongAt("schema", "A=I;^;").wrongAt("schema", "A=I;^?")
                .wrongAt("schema", "A=IIIIIIII^,").wrongAt("schema", "A=IIIIIIII?^?");
        s.of(5, "it is too long,").wrongAt("schema", "^ABCDEFGHI=I;").wrongAt("schema", "A=I; ^BBBBBBBBB=I;")
                .wrongAt("schema", "^" + "A".repeat(1200)).right("schema", 1, "BBBBBBBB=I;");
        s.of(5, "a letter is no sort,").wrongAt("schema", "A=^A;").wrongAt("schema", "A=I^N;")
                .wrongAt("schema", "A=^i;").wrongAt("schema", "A=I?^Z").wrongAt("schema", "A=IIIIIII^X;")
                .wrongAt("schema", "A=IIIIIIII^X;");
        s.of(5, "a name was told already (schema),").wrongAt("schema", "A=I;^A=I;").wrongAt("schema", "A=I;B=I; ^B")
                .wrongAt("schema", "A=I;B=I;^A;").wrongAt("schema", TWELVE + "^A=I;").right("schema", 1, "A=I;");
        s.of(5, "a text has no end (at its beginning),").wrongAt("schema", "^'A=I;").wrongAt("schema", "A=I; ^'");
        s.of(5, "it is more than may be (the thirteenth name,").wrongAt("schema", TWELVE + "^M=I;")
                .wrongAt("schema", TWELVE + " ^ABCDEFGHIJ=I;").wrongAt("schema", TWELVE + "^M")
                .wrongAt("schema", TWELVE + "^;").right("schema", 12, TWELVE);
        s.of(5, "the ninth sort").wrongAt("schema", "A=IIIIIIII^I;").wrongAt("schema", "A=I?I?I?I?I?I?I?I? ^I?;")
                .right("schema", 1, "A=I?I?I?I?I?I?I?I?;");
        s.of(5, "or the end of the text, if more must come.").wrongAt("schema", "A^").wrongAt("schema", "A  ^")
                .wrongAt("schema", "A=^").wrongAt("schema", "A=I^").wrongAt("schema", "A=I?^")
                .wrongAt("schema", "A=I;B^").wrongAt("schema", "A=IIIIIIII^").wrongAt("schema", "A=IIIIIIII?  ^")
                .right("schema", 1, "A=I; ")
                // A longer schema that was read before brings nothing behind the end.
                .given("A=I;B=I;", "").says("C=I").changesNothing("schema()", -4)
                .given("A=I;", "").says("C=").changesNothing("schema()", -3);
    }
}
