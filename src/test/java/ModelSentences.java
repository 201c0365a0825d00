/** What the document says of a model's lines: promises 7 to 15, and what of the terms bears on them. */
final class ModelSentences {
    private static final int LEAST = Integer.MIN_VALUE;
    private static final int GREATEST = Integer.MAX_VALUE;
    /** One line with an argument of every sort, and the empty list. */
    private static final String SORTS = "#7=A(-5,'it''s',#7,(4,-5,6),(#7,#9),.UP.,$,());#9=B(1,2);";

    private static final String SCHEMA = "A=IIIR?;B=RM;";
    private static final String MODEL = "#5=A(1,2,3,$);#7=A(1,2,3,#5);#9=B(#9,(#5,#7));";

    private ModelSentences() {
    }

    static void test(SentencesTest s) {
        written(s);
        tooLong(s);
        kept(s);
        linesInOrder(s);
        told(s);
        depths(s);
        arguments(s);
        items(s);
        numbersSet(s);
        wrongLines(s);
        refersTo(s);
        outOfBounds(s);
        noSuchLine(s);
        nothingChanged(s);
    }

    private static void written(SentencesTest s) {
        s.of(7, "The text becomes the model, line by line by numbers, without blanks, digits without 0s in front:")
                .given("", " # 100 = C ( 3 ) ; #010 = A(- 02, -0, 000, 0100);"
                        + "#2=B(' a ''b','',$,. UP .,( ),(01 , -002),(#010,#2),#002);")
                .is("write()", 75)
                .text("#2=B(' a ''b','',$,.UP.,(),(1,-2),(#10,#2),#2);#10=A(-2,0,0,100);#100=C(3);")
                .given("", "#1=A(1);").says("what was there").is("write()", 8).text("#1=A(1);").is("read()", 1)
                .given("", "#999=ABCDEFGH(999999999,-999999999,'''''');").is("write()", 43)
                .text("#999=ABCDEFGH(999999999,-999999999,'''''');");
        s.of(7, "how many characters it has;")
                .is("write()", 0).says("AB").is("write()", 0).text("")
                .given("", "#1=A(1);").is("write()", 8).is("count(0)", 8).is("write()", 8).is("count(0)", 8)
                .is("set(1, 0, -999999999)", 1).is("write()", 17).is("count(0)", 17);
    }

    /** Forty lines of 24 characters each; numbers that are set bring the text to its bound and over it. */
    private static void tooLong(SentencesTest s) {
        StringBuilder model = new StringBuilder();
        for (int i = 101; i <= 140; i++) {
            model.append("#" + i + "=A(1,2,3,4,5,6,7,8);");
        }
        Case c = s.of(7, "LONG, changing nothing.").given("", model.toString()).is("write()", 960);
        for (int i = 101; i <= 130; i++) {
            c.is("set(" + i + ", 0, -99999999)", 1);
        }
        c.is("write()", 1200).is("charAt(1199)", ';').is("trim(1190)", 10).is("set(140, 7, 10)", 8)
                .changesNothing("write()", -2).is("set(140, 6, -10)", 7).changesNothing("write()", -2)
                .is("set(140, 6, 0)", -10).is("set(140, 7, 9)", 10).is("write()", 1200);
        Case d = s.of(7, "`LONG = -2`: It would be too long.").is("count(0)", 2L + ExchangeText.LONG);
        d.given("", model.toString());
        for (int i = 101; i <= 140; i++) {
            d.is("set(" + i + ", 1, 999999999)", 2);
        }
        d.changesNothing("write()", ExchangeText.LONG).is("join()", 39).is("write()", 32);
    }

    private static void kept(SentencesTest s) {
        s.of(8, "The model is kept, beside the one that is read (also when another one is read):")
                .given("", "#1=A(1);#2=A(1);#3=B(#2);").is("keep()", 3).row("differs", ", 0")
                .is("set(1, 0, 5)", 1).row("differs", ", 0", 1).is("set(1, 0, 1)", 5).row("differs", ", 0")
                .is("join()", 1).row("differs", ", 0", 2, 3).row("differs", ", 1", 1, 3).is("count(3)", 3)
                .says("#1=A(1);#2=A(1);#3=B(#2);").is("read()", 3).row("differs", ", 0")
                .says("#3=B(#3);").is("read()", 1).row("differs", ", 0", 1, 2, 3).row("differs", ", 1", 1, 1, 3)
                .is("keep()", 1).row("differs", ", 0").row("line", "", 3);
        StringBuilder forty = new StringBuilder();
        for (int i = 1; i <= 40; i++) {
            forty.append("#" + i + "=A(1);");
        }
        s.of(8, "how many lines it has.").is("keep()", 0).given("", forty.toString()).is("keep()", 40)
                .is("join()", 39).is("count(3)", 40).is("keep()", 1).is("count(3)", 1).is("read()", 0).is("keep()", 0)
                .is("count(3)", 0);
    }

    private static void linesInOrder(SentencesTest s) {
        s.of(9, "The line that has so many others before it (by numbers); NONE.")
                .is("line(0)", -1).given("", "#100=A(1);#9=A(2);#999=A(3);#1=A(4);#10=A(5);")
                .row("line", "", 1, 9, 10, 100, 999).is("line(" + GREATEST + ")", -1).is("line(40)", -1);
        s.of(9, "Illegal argument: place is below 0.").refuses("line(-1)").refuses("line(" + LEAST + ")")
                .given("A=I;", "#1=A(1);#2=A(1);").refuses("line(-1)").refuses("line(" + LEAST + ")")
                .is("line(0)", 1);
        s.of(9, "The constants: `NONE = -1`: There is none.").is("line(0)", ExchangeText.NONE).is("line(0)", -1);
    }

    private static void told(SentencesTest s) {
        s.of(10, "Of a line: what = 0 which kind it is (NONE: its name is none's),")
                .given("A=I;B=I;C=I;D=I;E=I;F=I;G=I;H=I;I=I;J=I;K=I;L=I;", "#1=A(1);#2=L($);#3=M(1);#4=AA(1);"
                        + "#5=B(1,2);")
                .is("told(1, 0)", 0).is("told(2, 0)", 11).is("told(3, 0)", -1).is("told(4, 0)", -1)
                .is("told(5, 0)", 1).given("", "#1=A(1);").is("told(1, 0)", -1);
        s.of(10, "1 how many arguments,").given("", "#1=A(1);#2=A(1,(1,2,3),'a,b',$,5,6,7,8);")
                .is("told(1, 1)", 1).is("told(2, 1)", 8);
        s.of(10, "2 how many references (one told twice counts twice),")
                .given("", "#1=A(1,'#1',(1),());#2=A(#1);#3=A(#1,#1,(#1,#2,#1));"
                        + "#4=A((#1,#1,#1,#1,#1,#1),(#1,#1,#1,#1,#1,#1),#4);")
                .is("told(1, 2)", 0).is("told(2, 2)", 1).is("told(3, 2)", 5).is("told(4, 2)", 13)
                .given("", "#1=A(1,#1,(#1));").says("#1=A(1);#2=A(#1);").is("read()", 2).is("told(1, 2)", 0);
        s.of(10, "REFERENCES of a line are all in its arguments, in lists, too.")
                .given("", "#1=A(1);#2=A((#1));#3=A($,#2,(#1));").is("told(2, 2)", 1).is("told(3, 2)", 2)
                .is("from(1, 0)", 2).is("from(1, 1)", 3);
    }

    private static void depths(SentencesTest s) {
        StringBuilder up = new StringBuilder("#1=A(1);");
        StringBuilder down = new StringBuilder("#40=A(1);");
        for (int i = 2; i <= 40; i++) {
            up.append("#" + i + "=A(#" + (i - 1) + ");");
            down.append("#" + (41 - i) + "=A((#" + (42 - i) + "));");
        }
        s.of(10, "3 its DEPTH (NONE if it comes to a ring).")
                .given("", "#1=A(1);#2=A(#1);#3=A(#3);#4=A(#1,#3);#5=A(#4);#6=A(#7);#7=A((#6));#8=A(#6);")
                .is("told(1, 3)", 0).is("told(2, 3)", 1).is("told(3, 3)", -1).is("told(4, 3)", -1)
                .is("told(5, 3)", -1).is("told(6, 3)", -1).is("told(7, 3)", -1).is("told(8, 3)", -1);
        s.of(10, "DEPTH of a line is how many references the longest way from it has.")
                .given("", "#1=A(1);#2=A(#1,#1);#3=A(#1,#2);#4=A((#1,#3,#2));#5=A(#1,(#2));")
                .is("told(1, 3)", 0).is("told(2, 3)", 1).is("told(3, 3)", 2).is("told(4, 3)", 3).is("told(5, 3)", 2)
                .given("", up.toString()).is("told(40, 3)", 39).is("told(1, 3)", 0).is("told(20, 3)", 19)
                .given("", down.toString()).is("told(1, 3)", 39).is("told(40, 3)", 0);
    }

    private static void arguments(SentencesTest s) {
        Case c = s.of(11, "Of an argument: what = 0 its sort: 0 NUMBER, 1 TEXT, 2 REFERENCE, 3 list of numbers,"
                + " 4 list of references, 5 WORD, 6 NOTHING;").given("", SORTS);
        int[] sorts = {0, 1, 2, 3, 4, 5, 6, 3};
        for (int k = 0; k < 8; k++) {
            c.is("argument(7, " + k + ", 0)", sorts[k]);
        }
        Case d = s.of(11, "1 the number, the line referred to,"
                + " or how many characters or items it has (0 of NOTHING).")
                .given("", SORTS);
        int[] values = {-5, 4, 7, 3, 2, 2, 0, 0};
        for (int k = 0; k < 8; k++) {
            d.is("argument(7, " + k + ", 1)", values[k]);
        }
    }

    private static void items(SentencesTest s) {
        s.of(12, "Item or character i of an argument.").given("", SORTS)
                .is("item(7, 1, 0)", 'i').is("item(7, 1, 2)", 39).is("item(7, 1, 3)", 's')
                .is("item(7, 3, 0)", 4).is("item(7, 3, 1)", -5).is("item(7, 3, 2)", 6)
                .is("item(7, 4, 0)", 7).is("item(7, 4, 1)", 9).is("item(7, 5, 0)", 'U').is("item(7, 5, 1)", 'P')
                .given("", "#1=A((1,2,3,4,5,6),(-999999999,999999999),'abcdefghijklmnopqrst',.ABCDEFGH.);")
                .is("item(1, 0, 5)", 6).is("item(1, 1, 0)", -999999999).is("item(1, 1, 1)", 999999999)
                .is("item(1, 2, 19)", 't').is("item(1, 3, 7)", 'H');
        Case c = s.of(12, "Illegal argument: also if there is none such.").given("C=I;", SORTS).is("keep()", 2)
                .says("x");
        int[] sizes = {0, 4, 0, 3, 2, 2, 0, 0};
        for (int k = 0; k < 8; k++) {
            c.refuses("item(7, " + k + ", " + sizes[k] + ")").refuses("item(7, " + k + ", -1)")
                    .refuses("item(7, " + k + ", " + GREATEST + ")").refuses("item(7, " + k + ", " + LEAST + ")");
        }
        c.refuses("item(7, 8, 0)").refuses("item(7, -1, 0)").refuses("item(7, " + GREATEST + ", 0)")
                .refuses("item(7, " + LEAST + ", 0)").refuses("item(8, 1, 0)").refuses("item(0, 1, 0)")
                .refuses("item(-1, 1, 0)").refuses("item(9, 2, 0)");
    }

    private static void numbersSet(SentencesTest s) {
        s.of(13, "A NUMBER of a line becomes another one (-999999999 .. 999999999):").given("", SORTS)
                .is("set(7, 0, 999999999)", -5).is("argument(7, 0, 1)", 999999999).is("argument(7, 0, 0)", 0)
                .is("set(7, 0, -999999999)", 999999999).is("argument(7, 0, 1)", -999999999)
                .is("argument(9, 0, 1)", 1).refuses("set(7, 0, 1000000000)").refuses("set(7, 0, -1000000000)")
                .refuses("set(7, 0, " + GREATEST + ")").refuses("set(7, 0, " + LEAST + ")").is("set(9, 1, 0)", 2)
                .is("argument(9, 1, 1)", 0).given("", "#1=A(1,2,3,$);#2=A(10,20,30,#1);#3=A(1,2,3,$);")
                .is("alike(1, 3)", 1).is("set(1, 1, 7)", 2).is("alike(1, 3)", 0).is("place(2, 1)", 27)
                .is("write()", 46);
        s.of(13, "what it was.").given("", "#1=A(1,-2);").is("set(1, 1, 3)", -2).is("set(1, 1, 3)", 3)
                .is("set(1, 1, 0)", 3).is("set(1, 1, -0)", 0).is("set(1, 0, 5)", 1);
        Case c = s.of(13, "Illegal argument: also if the argument is none.").given("C=I;", SORTS).is("keep()", 2)
                .says("x");
        for (int k = 1; k < 8; k++) {
            c.refuses("set(7, " + k + ", 1)");
        }
        c.refuses("set(7, 8, 1)").refuses("set(7, -1, 1)").refuses("set(9, 2, 1)").refuses("set(8, 0, 1)")
                .refuses("set(0, 0, 1)").refuses("set(1000, 0, 1)").refuses("set(7, " + LEAST + ", 1)")
                .refuses("set(7, " + GREATEST + ", 1)");
    }

    private static void wrongLines(SentencesTest s) {
        String schema = "A=ITRLME;B=I?T?R?L?M?E?;C=I;";
        String fits = "#1=A(1,'',#1,(1),(#1),.X.);#2=A(1,'',#1,(),(),.X.);#3=B($,$,$,$,$,$);#4=B(1,'',#1,(),(),.X.);"
                + "#5=C(1);";
        s.of(14, "A LINE FITS if its name is that of a kind, it has as many arguments as that has sorts,"
                + " and each is of its sort (an empty list also of M), or NOTHING where that may be.")
                .given(schema, fits).row("wrong", ", 0")
                .given(schema, "#1=A(1,'',#1,(#1),(#1),.X.);#2=A(1,'',#1,(1),(1),.X.);#3=B($,$,$,$,(1),$);#4=CC(1);"
                        + "#5=C(1,1);#6=C($);#7=A(1,'',#1,(),(),$);#8=C(());")
                .row("wrong", ", 0", 1, 2, 3, 4, 5, 6, 7, 8).row("wrong", ", 1", 3, 3, 3, 1, 2, 3, 3, 3)
                .row("wrong", ", 2", 3, 4, 4, -1, -1, 0, 5, 0);
        s.of(14, "Of the k-th line (by numbers) that does not FIT: what = 0 its number,")
                .given("C=I;", "#30=C('');#20=C(1);#9=C(1,2);#100=C(2);#10=D(1);#999=C($);")
                .row("wrong", ", 0", 9, 10, 30, 999).given("C=I;", "#1=C(1);").row("wrong", ", 0").is("schema()", 0)
                .row("wrong", ", 0", 1);
        s.of(14, "1 why: 1 it is no kind, 2 another number of arguments, 3 an argument's sort;")
                .given("C=II;", "#1=D(1,1);#2=C(1);#3=C(1,2,3);#4=C(1,'');#5=D('');#6=C('');#7=C(1,2,'');")
                .row("wrong", ", 1", 1, 2, 2, 3, 1, 2, 2);
        s.of(14, "2 the first such argument (NONE for 1 and 2).")
                .given("C=IIIIIIII;", "#1=D('');#2=C('');#3=C('','',1,2,3,4,5,6);#4=C(1,2,3,4,5,6,7,$);"
                        + "#5=C(1,2,$,4,5,'',7,8);")
                .row("wrong", ", 2", -1, -1, 0, 7, 2).row("wrong", ", 1", 1, 2, 3, 3, 3);
        s.of(14, "NONE if there is no such line.")
                .is("wrong(0, 0)", -1).is("wrong(0, 1)", -1).is("wrong(0, 2)", -1).given("C=I;", "#1=C(1);#2=C('');")
                .is("wrong(0, 0)", 2).is("wrong(1, 0)", -1).is("wrong(1, 1)", -1).is("wrong(1, 2)", -1)
                .is("wrong(" + GREATEST + ", 0)", -1).is("wrong(" + GREATEST + ", 2)", -1);
    }

    private static void refersTo(SentencesTest s) {
        s.of(15, "The k-th line (by numbers, each once) that refers to a line; NONE.")
                .given("", "#50=A(#50,#1);#4=A((#1,#1),#1);#1=A(1);#30=A(#50);#2=A(1,(#30,#1));")
                .is("from(1, 0)", 2).is("from(1, 1)", 4).is("from(1, 2)", 50).is("from(1, 3)", -1)
                .is("from(50, 0)", 30).is("from(50, 1)", 50).is("from(50, 2)", -1).is("from(30, 0)", 2)
                .is("from(30, 1)", -1).is("from(4, 0)", -1).is("from(1, " + GREATEST + ")", -1);
        StringBuilder forty = new StringBuilder("#40=A(#40);");
        for (int i = 1; i < 40; i++) {
            forty.append("#" + i + "=A(#40);");
        }
        s.of(15, "NONE.").given("", forty.toString()).is("from(40, 0)", 1).is("from(40, 39)", 40)
                .is("from(40, 40)", -1).is("from(1, 0)", -1);
    }

    private static void outOfBounds(SentencesTest s) {
        String[][] refused = {
            {"10", "told(5, -1)", "told(5, 4)", "told(5, LEAST)", "told(5, GREATEST)"},
            {"11", "argument(5, 0, -1)", "argument(5, 0, 2)", "argument(5, 0, LEAST)", "argument(5, 0, GREATEST)",
                "argument(5, -1, 0)", "argument(5, 4, 0)", "argument(5, LEAST, 0)", "argument(5, GREATEST, 0)",
                "argument(9, 2, 0)"},
            {"14", "wrong(-1, 0)", "wrong(LEAST, 0)", "wrong(0, -1)", "wrong(0, 3)", "wrong(0, LEAST)",
                "wrong(0, GREATEST)", "wrong(99, 3)", "wrong(99, -1)"},
            {"15", "from(5, -1)", "from(5, LEAST)", "from(6, 0)", "from(6, -1)"},
            {"18", "alike(5, 6)", "alike(6, 5)", "alike(6, 6)", "alike(0, 0)", "alike(LEAST, 5)",
                "alike(5, GREATEST)"},
            {"20", "differs(-1, 0)", "differs(LEAST, 0)", "differs(0, -1)", "differs(0, 2)", "differs(0, LEAST)",
                "differs(0, GREATEST)", "differs(99, 2)", "differs(99, -1)"}};
        for (String[] promise : refused) {
            Case c = s.of(Integer.parseInt(promise[0]), "Illegal argument.").given(SCHEMA, MODEL).is("keep()", 3);
            c.says("x");
            for (int i = 1; i < promise.length; i++) {
                c.refuses(promise[i].replace("LEAST", "" + LEAST).replace("GREATEST", "" + GREATEST));
            }
        }
    }

    private static void noSuchLine(SentencesTest s) {
        Case bounds = s.of(10, "In all calls illegal argument: a number is out of its bounds, there is no such line"
                + " (of the model that was read last), argument.").given(SCHEMA, "#1=A(1,2,3,$);").is("keep()", 1)
                .says(MODEL).is("read()", 3);
        int[] none = {1, 6, 8, 0, -1, -5, 999, 1000, 5 + 1024, LEAST, GREATEST};
        for (int line : none) {
            bounds.refuses("told(" + line + ", 0)").refuses("argument(" + line + ", 0, 0)")
                    .refuses("item(" + line + ", 1, 0)").refuses("set(" + line + ", 0, 1)")
                    .refuses("from(" + line + ", 0)").refuses("place(" + line + ", 0)")
                    .refuses("alike(" + line + ", 5)").refuses("alike(5, " + line + ")")
                    .refuses("alike(" + line + ", " + line + ")");
        }
        s.of(19, "In all calls illegal argument: a number is out of its bounds,"
                + " there is no such line (of the model that was read last), argument.")
                .given("", "#1=A(1);#2=A(1);#3=A(#2);").is("join()", 1).refuses("told(2, 0)")
                .refuses("argument(2, 0, 0)").refuses("set(2, 0, 5)").refuses("from(2, 0)").refuses("alike(2, 2)")
                .is("argument(3, 0, 1)", 1);
    }

    private static void nothingChanged(SentencesTest s) {
        Case nothing = s.of(13, "a call that throws changes nothing.").given(SCHEMA, MODEL).is("keep()", 3)
                .says("ABC");
        nothing.refuses("say(31)").refuses("trim(4)").refuses("charAt(3)").refuses("line(-1)").refuses("told(5, 4)")
                .refuses("argument(5, 4, 0)").refuses("item(5, 0, 0)").refuses("set(5, 3, 1)")
                .refuses("set(5, 0, 1000000000)").refuses("wrong(-1, 0)").refuses("from(5, -1)").refuses("ring(-1)")
                .refuses("place(9, 0)").refuses("alike(5, 6)").refuses("differs(0, 2)").refuses("count(4)");
    }
}
