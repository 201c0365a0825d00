/** What the document says of rings, places, alike lines and differences: promises 16 to 20, and their terms. */
final class WaysSentences {
    private static final int LEAST = Integer.MIN_VALUE;
    private static final int GREATEST = Integer.MAX_VALUE;

    private WaysSentences() {
    }

    static void test(SentencesTest s) {
        rings(s);
        placed(s);
        places(s);
        placesOfRings(s);
        alike(s);
        alikeArguments(s);
        joined(s);
        differs(s);
        changed(s);
    }

    /** Lines 1 to 40, each with 1,2,3 and a reference to the one before; the first one with this. */
    private static String chain(String first) {
        StringBuilder text = new StringBuilder("#1=A(1,2,3," + first + ");");
        for (int i = 2; i <= 40; i++) {
            text.append("#" + i + "=A(1,2,3,#" + (i - 1) + ");");
        }
        return text.toString();
    }

    private static void rings(SentencesTest s) {
        s.of(16, "The k-th line (by numbers) that is on a ring itself; NONE.").is("ring(0)", -1)
                .given("", "#90=A(#90);#1=A(#2);#2=A((1),(#3,#5));#3=A(#2);#4=A(#1);#5=A(1);#70=A(#80);#80=A(#60);"
                        + "#60=A(#70,#4);")
                .row("ring", "", 2, 3, 60, 70, 80, 90).is("ring(" + GREATEST + ")", -1);
        Case forty = s.of(16, "A RING is a way of references that comes back.").given("", chain("#40"));
        for (int k = 0; k < 40; k++) {
            forty.is("ring(" + k + ")", k + 1);
        }
        forty.is("ring(40)", -1).is("told(17, 3)", -1).given("", chain("$")).is("ring(0)", -1).is("told(40, 3)", 39)
                .given("", "#1=A(#1);#2=A((#3));#3=A((1),(#2));#4=A(#1,#2);").row("ring", "", 1, 2, 3);
        s.of(16, "Illegal argument: k is below 0.").refuses("ring(-1)")
                .given("A=R;", "#1=A(#1);#2=A(#1);").is("keep()", 2).refuses("ring(-1)")
                .refuses("ring(" + LEAST + ")").is("ring(0)", 1);
    }

    private static void placed(SentencesTest s) {
        s.of(17, "A line is PLACED if its first three arguments are numbers"
                + " and its fourth one is a reference or NOTHING.")
                .given("", "#1=A(1,2,3,$);#2=B(4,5,6,#1,'more',$,7,8);#3=A(1,2,3);#4=A(1,2,3,4);#5=A($,2,3,$);"
                        + "#6=A(1,'2',3,$);#7=A(1,2,(3),$);#8=A(1,2,3,(#1));#9=A(1,2,3,'');#10=A(1,2,3,.X.);"
                        + "#11=A(1,2,3,());#12=A(#1,2,3,$);#13=A(1);#14=A(1,2,$);#15=A(-0,0,0,$);")
                .is("place(1, 0)", 1).is("place(2, 0)", 5).is("place(2, 2)", 9).is("place(15, 0)", 0)
                .refuses("place(3, 0)").refuses("place(4, 0)").refuses("place(5, 0)").refuses("place(5, 1)")
                .refuses("place(6, 0)").refuses("place(6, 1)").refuses("place(7, 2)").refuses("place(8, 0)")
                .refuses("place(9, 0)").refuses("place(10, 0)").refuses("place(11, 0)").refuses("place(12, 1)")
                .refuses("place(13, 0)").refuses("place(14, 0)");
        s.of(17, "Its PLACE is these numbers, and, if the reference is to a placed line,"
                + " the place of that comes to them.")
                .given("", "#1=A(1,2,3,$);#2=B(10,20,30,#1);#3=A(100,-200,300,#2,#4);#4=A(5,5,5);#5=A(7,8,9,#4);"
                        + "#6=A(1,1,1,#5);")
                .is("place(1, 0)", 1).is("place(1, 1)", 2).is("place(1, 2)", 3).is("place(2, 0)", 11)
                .is("place(2, 1)", 22).is("place(3, 0)", 111).is("place(3, 1)", -178).is("place(3, 2)", 333)
                .is("place(5, 0)", 7).is("place(5, 2)", 9).is("place(6, 1)", 9);
    }

    private static void places(SentencesTest s) {
        Case c = s.of(17, "Number axis (0 .. 2) of a line's PLACE;").given("", chain("$")).is("place(40, 0)", 40)
                .is("place(40, 1)", 80).is("place(40, 2)", 120).is("place(1, 2)", 3);
        for (int i = 1; i <= 40; i++) {
            c.is("set(" + i + ", 0, 999999999)", 1).is("set(" + i + ", 1, -999999999)", 2);
        }
        c.is("place(40, 0)", 40L * 999999999).is("place(40, 1)", -40L * 999999999).is("place(3, 0)", 3L * 999999999)
                .is("place(40, 2)", 120);
        s.of(17, "Illegal argument: also if it is not placed.")
                .given("A=IIIR?;", "#1=A(1,2,3,$);#2=A(1,2,3);#3=A(1,2,3,#1);").is("keep()", 3).says("x")
                .refuses("place(2, 0)").refuses("place(1, -1)").refuses("place(1, 3)")
                .refuses("place(1, " + LEAST + ")").refuses("place(1, " + GREATEST + ")").refuses("place(4, 0)")
                .refuses("place(0, 0)").refuses("place(2, 3)").refuses("place(4, 3)").is("trim(1)", 0)
                .says("#1=A(1,2,3);").is("read()", 1).refuses("place(1, 0)");
    }

    private static void placesOfRings(SentencesTest s) {
        s.of(17, "RING if the way of its placed lines comes to a ring of these.")
                .given("", "#1=A(1,1,1,#1);#2=A(2,2,2,#1);#3=A(3,3,3,#4);#4=A(4,4,4,#3);#5=A(5,5,5,#4);"
                        // Rings, but none of placed lines: through a line that is not placed, or another argument.
                        + "#6=A(6,6,6,#7);#7=A(7,7,'',#6);#8=A(8,8,8,$,#8);#9=A(9,9,9,#8,#9);#10=A(1,1,1,#6,#1);")
                .is("place(1, 0)", 1000000000000L).is("place(2, 1)", 1000000000000L).is("place(3, 2)", 1000000000000L)
                .is("place(4, 0)", 1000000000000L).is("place(5, 0)", 1000000000000L).is("place(6, 0)", 6)
                .is("place(8, 0)", 8).is("place(9, 0)", 17).is("place(10, 0)", 7).refuses("place(7, 0)")
                .given("", chain("#40")).is("place(1, 0)", 1000000000000L).is("place(40, 2)", 1000000000000L)
                .given("", chain("#1")).is("place(40, 2)", 1000000000000L);
        s.of(17, "`RING = 1000000000000L`: No place: the way comes to a ring.").given("", "#1=A(0,0,0,#1);")
                .is("place(1, 0)", ExchangeText.RING).is("place(1, 0)", 1000000000000L);
    }

    private static void alike(SentencesTest s) {
        s.of(18, "Whether two lines are ALIKE.").given("", "#1=A(1);#2=A(1);#3=A(2);#4=A(1);").is("alike(1, 2)", 1)
                .is("alike(2, 1)", 1).is("alike(1, 3)", 0).is("alike(3, 1)", 0).is("alike(4, 2)", 1)
                .is("set(2, 0, 2)", 1).is("alike(1, 2)", 0).is("alike(2, 3)", 1).is("alike(1, 4)", 1)
                .says("#1=A(1);#2=A(2);#3=A(1);").is("read()", 3).is("alike(2, 3)", 0).is("alike(1, 3)", 1);
        s.of(18, "ALIKE are two lines if they are one,").given("", "#1=A(1);#2=A(#2);#3=A(#2);")
                .is("alike(1, 1)", 1).is("alike(2, 2)", 1).is("alike(3, 3)", 1);
        s.of(18, "or neither comes to a ring,")
                .given("", "#1=A(#1);#2=A(#2);#3=A(#1);#4=A(#1);#5=A(#6);#6=A(#5);#7=B(1,#3);#8=B(1,#3);#9=A(#10);"
                        + "#10=B(1);#11=A(#10);")
                .is("alike(1, 2)", 0).is("alike(3, 4)", 0).is("alike(5, 6)", 0).is("alike(7, 8)", 0)
                .is("alike(1, 3)", 0).is("alike(3, 9)", 0).is("alike(9, 11)", 1);
        s.of(18, "both have the same name and as many arguments,")
                .given("", "#1=A(1);#2=B(1);#3=A(1,1);#4=AA(1);#5=A(1,1);#6=ABCDEFGH(1);#7=ABCDEFGI(1);"
                        + "#8=ABCDEFGH(1);#9=A(1,1,1,1,1,1,1,1);#10=A(1,1,1,1,1,1,1,1);#11=A(1,1,1,1,1,1,1);")
                .is("alike(1, 2)", 0).is("alike(1, 3)", 0).is("alike(1, 4)", 0).is("alike(3, 5)", 1)
                .is("alike(6, 7)", 0).is("alike(6, 8)", 1).is("alike(9, 10)", 1).is("alike(9, 11)", 0)
                .is("alike(3, 1)", 0);
    }

    private static void alikeArguments(SentencesTest s) {
        Case c = s.of(18, "these the same one by one: of one sort, the same number, text, word, list;");
        String[] arguments = {"1", "-1", "'1'", "''", "' '", "'X'", "'XY'", ".X.", ".XY.", ".Y.", "$", "()", "(1)",
            "(-1)", "(1,2)", "(2,1)", "(1,2,3)", "0", "'x'"};
        StringBuilder text = new StringBuilder();
        for (int i = 0; i < arguments.length; i++) {
            text.append("#" + (i + 1) + "=A(" + arguments[i] + ");#" + (i + 101) + "=A(" + arguments[i] + ");");
        }
        for (int i = 1; i <= arguments.length; i++) {
            c.given("", text.toString());
            for (int j = 1; j <= arguments.length; j++) {
                c.is("alike(" + i + ", " + (j + 100) + ")", i == j ? 1 : 0);
            }
        }
        c.given("", "#1=A(1,2);#2=A(2,1);#3=A(1,3);#4=A(1,2);#5=A(-0);#6=A(00);").is("alike(1, 2)", 0)
                .is("alike(1, 3)", 0).is("alike(1, 4)", 1).is("alike(5, 6)", 1);
        s.of(18, "references to lines that are alike.")
                .given("", "#1=A(1);#2=A(1);#3=A(2);#4=B(#1);#5=B(#2);#6=B(#3);#7=C((#1,#4));#8=C((#2,#5));"
                        + "#9=C((#4,#1));#10=C((#1,#6));#11=B((#1));#12=C((#1));#13=D(#7,#1);#14=D(#8,#2);"
                        + "#15=C((#2));")
                .is("alike(4, 5)", 1).is("alike(4, 6)", 0).is("alike(7, 8)", 1).is("alike(7, 9)", 0)
                .is("alike(7, 10)", 0).is("alike(4, 11)", 0).is("alike(7, 12)", 0).is("alike(13, 14)", 1)
                .is("alike(12, 15)", 1).is("set(2, 0, 2)", 1).is("alike(4, 5)", 0).is("alike(5, 6)", 1)
                .is("alike(7, 8)", 0).is("alike(13, 14)", 0);
    }

    private static void joined(SentencesTest s) {
        s.of(19, "Of lines that are alike the one with the least number stays, all others go;")
                .given("", "#9=A(1);#5=A(1);#7=A(1);#6=A(2);#3=A(2);#4=B(#4);#8=B(#4);#10=B(#4);").is("join()", 3)
                .row("line", "", 3, 4, 5, 8, 10).refuses("told(9, 0)").refuses("told(6, 0)").is("told(5, 1)", 1);
        s.of(19, "references to these lead to it:")
                .given("", "#9=B(#5,(#8,#7,#9));#8=A(1);#7=A(2);#5=A(1);#6=A(1);#4=C(#6);#3=C(#8);#2=D((#4,#3));"
                        + "#10=E(#10,#6);")
                .is("keep()", 9).is("join()", 3).is("write()", 73)
                .text("#2=D((#3,#3));#3=C(#5);#5=A(1);#7=A(2);#9=B(#5,(#5,#7,#9));#10=E(#10,#5);")
                .is("from(5, 0)", 3).is("from(5, 1)", 9).is("from(5, 2)", 10).is("from(5, 3)", -1)
                .is("argument(10, 1, 1)", 5).is("told(2, 3)", 2).row("ring", "", 9, 10)
                .row("differs", ", 0", 2, 3, 4, 6, 8, 9, 10).is("told(2, 2)", 2)
                // Numbers and characters stay, also if a line had such a number.
                .given("", "#1=A(1);#2=A(1);#65=A(1);#3=B((#2),(2,65),(#65,#2),'A',.A.,2,(2),#65);").is("join()", 2)
                .is("write()", 51).text("#1=A(1);#3=B((#1),(2,65),(#1,#1),'A',.A.,2,(2),#1);");
        StringBuilder same = new StringBuilder();
        StringBuilder pairs = new StringBuilder("#1=A(1);#2=A(1);");
        StringBuilder full = new StringBuilder();
        for (int i = 1; i <= 40; i++) {
            full.append("#" + i + "=A(" + i + ",2,3,4,5,6,7,#" + i + ");");
            same.append("#" + (1000 - i) + "=A(1);");
            pairs.append(i < 3 ? "" : "#" + i + "=A(#" + (i - 2) + ",#" + (i - 2) + ");");
        }
        s.of(19, "how many go.").is("join()", 0).given("", "#1=A(1);#2=A(2);").changesNothing("join()", 0)
                .given("", "#1=A(#1);#2=A(#1);#3=A(#1);").changesNothing("join()", 0)
                .given("", full.toString()).changesNothing("join()", 0)
                .given("", full.toString().replaceAll("#\\d+\\)", "8)")).changesNothing("join()", 0)
                .given("", same.toString()).is("join()", 39).is("line(0)", 960).is("count(2)", 1)
                .changesNothing("join()", 0).given("", pairs.toString()).is("join()", 20).is("told(39, 3)", 19)
                .is("count(2)", 20).given("", "#1=A(1);#2=A(2);#3=B(#1);#4=B(#2);").is("join()", 0)
                .is("set(2, 0, 1)", 2).is("join()", 2).row("line", "", 1, 3);
    }

    private static void differs(SentencesTest s) {
        s.of(20, "Of the k-th difference, by lines' numbers, of the model to the one that was kept:"
                + " what = 0 the number,")
                .given("", "#10=A(1);#1=A(1);#999=A(1);#5=A(1);").row("differs", ", 0", 1, 5, 10, 999)
                .is("keep()", 4).row("differs", ", 0").says("#999=A(2);#7=A(1);#1=A(1);#11=A(1);#5=B(1);")
                .is("read()", 5).row("differs", ", 0", 5, 7, 10, 11, 999).row("differs", ", 1", 3, 2, 1, 2, 3);
        s.of(20, "1 how: 1 it is not there any more,").given("", "#1=A(1);#2=A(1);#3=A(1);").is("keep()", 3)
                .says("#2=A(1);").is("read()", 1).row("differs", ", 0", 1, 3).row("differs", ", 1", 1, 1)
                .is("read()", 0).row("differs", ", 0", 1, 2, 3).row("differs", ", 1", 1, 1, 1)
                .given("", "#1=A(1);#2=A(1);").is("keep()", 2).is("join()", 1).row("differs", ", 0", 2)
                .row("differs", ", 1", 1);
        s.of(20, "2 it was not there,").given("", "#1=A(1);#2=A(2);").row("differs", ", 0", 1, 2)
                .row("differs", ", 1", 2, 2).is("keep()", 2).says("#3=A(1);#1=A(1);#2=A(2);#999=A(1);")
                .is("read()", 4).row("differs", ", 0", 3, 999).row("differs", ", 1", 2, 2);
        StringBuilder low = new StringBuilder();
        StringBuilder high = new StringBuilder();
        for (int i = 1; i <= 40; i++) {
            low.append("#" + i + "=A(1);");
            high.append("#" + (i + 100) + "=A(1);");
        }
        s.of(20, "NONE if there is no such one.").is("differs(0, 0)", -1).is("differs(0, 1)", -1)
                .given("", "#1=A(1);").is("differs(1, 0)", -1).is("differs(1, 1)", -1)
                .is("differs(" + GREATEST + ", 1)", -1).is("keep()", 1).is("differs(0, 0)", -1)
                .is("differs(0, 1)", -1).given("", high.toString()).is("keep()", 40).says(low.toString())
                .is("read()", 40).is("differs(0, 0)", 1).is("differs(39, 0)", 40).is("differs(39, 1)", 2)
                .is("differs(40, 0)", 101).is("differs(40, 1)", 1).is("differs(79, 0)", 140).is("differs(79, 1)", 1)
                .is("differs(80, 0)", -1).is("differs(80, 1)", -1);
    }

    private static void changed(SentencesTest s) {
        s.of(20, "3 its name or an argument is another one, or there are more or fewer")
                .given("", "#1=A(1);#2=A('a');#3=A(.U.);#4=A((1,2));#5=A(1,2);#6=A(1,2);#7=ABCDEFGH(1);"
                        + "#8=A(1,2,3,4,5,6,7,8);#9=A(1);")
                .is("keep()", 9)
                .says("#1=A(2);#2=A('b');#3=A(.V.);#4=A((1,3));#5=A(1);#6=A(1,2,3);#7=ABCDEFGI(1);"
                        + "#8=A(1,2,3,4,5,6,7,9);#9=A(01);")
                .is("read()", 9).row("differs", ", 0", 1, 2, 3, 4, 5, 6, 7, 8)
                .row("differs", ", 1", 3, 3, 3, 3, 3, 3, 3, 3).is("set(1, 0, 1)", 2).is("differs(0, 0)", 2);
        s.of(20, "(of references the number counts;")
                .given("", "#1=A(1);#2=A(1);#3=A(#1);#4=A((#1,#2));#5=A(#1);").is("keep()", 5)
                .says("#1=A(1);#2=A(1);#3=A(#2);#4=A((#2,#2));#5=A(#001);").is("read()", 5)
                .row("differs", ", 0", 3, 4).row("differs", ", 1", 3, 3)
                // What a line refers to may be another one now: its number is the same.
                .says("#1=B(9);#2=A(1);#3=A(#1);#4=A((#1,#2));#5=A(#1);").is("read()", 5).row("differs", ", 0", 1);
        s.of(20, "arguments of different sorts, lists of different lengths are others).")
                .given("", "#1=A(1);#2=A('X');#3=A(());#4=A($);#5=A((1));#6=A((#1));#7=A((1,2));#8=A('ab');"
                        + "#9=A((#1,#1));#10=A(#1);#11=A(0);#12=A('');")
                .is("keep()", 12)
                .says("#1=A('1');#2=A(.X.);#3=A($);#4=A(0);#5=A((1,1));#6=A((1));#7=A((1));#8=A('a');#9=A((#1));"
                        + "#10=A(1);#11=A(());#12=A(());")
                .is("read()", 12).row("differs", ", 0", 1, 2, 3, 4, 5, 6, 7, 8, 9, 10, 11, 12)
                .row("differs", ", 1", 3, 3, 3, 3, 3, 3, 3, 3, 3, 3, 3, 3);
    }
}
