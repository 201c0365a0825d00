/** What the document says of reading a model: promise 6, and what of the terms bears on it. */
final class ReadSentences {
    private ReadSentences() {
    }

    static void test(SentencesTest s) {
        answers(s);
        lines(s);
        numbersAndTexts(s);
        otherArguments(s);
        words(s);
        anotherWord(s);
        wrongPlaces(s);
        tooMany(s);
        ends(s);
    }

    /** Lines 1 to many, as short as may be. */
    private static String lines(int many) {
        StringBuilder text = new StringBuilder();
        for (int i = 1; i <= many; i++) {
            text.append("#" + i + "=A(1);");
        }
        return text.toString();
    }

    /** Six lines with texts as long as may be: when more such are read, they must find room again. */
    private static String fullTexts() {
        StringBuilder text = new StringBuilder();
        for (int i = 1; i <= 6; i++) {
            text.append("#" + i + "=A(" + "'abcdefghijklmnopqrst',".repeat(7) + "'abcdefghijklmnopqrst');");
        }
        return text.toString();
    }

    private static void answers(SentencesTest s) {
        s.of(6, "The text is read as a model: how many lines, which are the model then, and the text is empty;")
                .given("A=I;", "#1=A(1);#2=A(2);").is("keep()", 2)
                .says("#7=A(3);#5=B(#7);#6=A(4);").is("read()", 3).is("count(0)", 0).is("count(1)", 1)
                .is("count(2)", 3).is("count(3)", 2).row("line", "", 5, 6, 7).refuses("told(1, 0)")
                .is("told(5, 3)", 1).is("from(7, 0)", 5).is("argument(7, 0, 1)", 3)
                .is("read()", 0).is("count(2)", 0).is("line(0)", -1).refuses("told(5, 0)")
                .says("    ").is("read()", 0).is("count(0)", 0);
        Case again = s.of(6, "which are the model then,");
        for (int i = 0; i < 3; i++) {
            again.says(fullTexts()).is("read()", 6).is("argument(6, 7, 1)", 20).is("item(1, 0, 0)", 'a')
                    .is("item(6, 7, 0)", 'a').is("item(6, 7, 19)", 't');
        }
        s.of(6, "-1 less the wrong place,")
                .wrongAt("read", "#1=A(^?);").wrongAt("read", "^?").wrongAt("read", " ".repeat(1199) + "^?")
                .wrongAt("read", " ".repeat(1199) + "#^")
                .given("", "").says("#1=A(").is("read()", -6).text("#1=A(").says("1);").is("read()", 1);
        s.of(6, "or, if there is none, -10000 less the number of the first line in the text that refers to a line"
                + " that there is not;")
                .given("A=R;", "#1=A(1);").says("#9=A(#9);#999=A(#1);#1=A(#2);").changesNothing("read()", -10001)
                .given("A=R;", "#1=A(1);").says("#999=A(1,#3);#1=A(#2);").changesNothing("read()", -10999)
                .given("A=R;", "#2=A(1);").says("#1=A((#1,#1,#2));").changesNothing("read()", -10001)
                .given("A=R;", "#2=A(1);").says("#1=A((#2,#1));").changesNothing("read()", -10001)
                .given("", "").says("#5=A(#6);#6=A((#5,#5,#7));#3=A(#9);").changesNothing("read()", -10006)
                .says("#9=A(1);#7=A(1);").is("read()", 5).wrongAt("read", "#1=A(#2);#2=A(#3);^?")
                .wrongAt("read", "#1=A(#2)^").wrongAt("read", "#1=A(#2);#^1=A(1);");
        s.of(6, "changing nothing.")
                .given("A=I;", "#1=A(1);#2=A(#1);#3=A(#3);").is("keep()", 3).says("#1=B(2);#4=A(#1);#5=A(1")
                .changesNothing("read()", -24).says(",#9);").changesNothing("read()", -10005)
                .is("trim(5)", 23).says(");").is("read()", 3).row("line", "", 1, 4, 5);
    }

    private static void lines(SentencesTest s) {
        s.of(6, "A MODEL is a row of LINES, 40 at most:")
                .right("read", 0, "").right("read", 1, lines(1)).right("read", 40, lines(40))
                .right("read", 40, lines(40) + "   ").wrongAt("read", lines(40) + "^#41=A(1);");
        s.of(6, "# DIGITS = NAME ( ARGUMENTS ) ; with a number 1 .. 999 that no other line before it has,")
                .right("read", 2, "#1=A(1);#999=ABCDEFGH(1);").right("read", 1, "#001=A(1);")
                .wrongAt("read", "#^0=A(1);").wrongAt("read", "#^000=A(1);").wrongAt("read", "#^1000=A(1);")
                .wrongAt("read", "#1=A(1);#^1=A(1);").wrongAt("read", "#1=A(1);#2=A(1);#^01=B(2);")
                .wrongAt("read", "#999=A(1);#^999=A(1);").right("read", 2, "#1=A(#2);#2=A(#1);");
        s.of(6, "and 1 .. 8 arguments with , between.").right("read", 1, "#1=A(1);")
                .right("read", 1, "#1=A(1,'',#1,(),$,.X.,(#1),8);").wrongAt("read", "#1=A(^);")
                .wrongAt("read", "#1=A(1,2,3,4,5,6,7,8,^9);").wrongAt("read", "#1=A(1 ^2);")
                .wrongAt("read", "#1=A(1,^,2);").wrongAt("read", "#1=A(^,1);").wrongAt("read", "#1=A(1,^);")
                .given("", "#1=A(1,2,3,4,5,6,7,8);").is("told(1, 1)", 8).is("argument(1, 7, 1)", 8);
    }

    private static void numbersAndTexts(SentencesTest s) {
        s.of(6, "An ARGUMENT is a NUMBER: perhaps a -, 1 .. 9 digits;")
                .given("", "#1=A(0,-0,999999999,-999999999,000000007,-000000007,- 8);")
                .is("argument(1, 0, 1)", 0).is("argument(1, 1, 1)", 0).is("argument(1, 2, 1)", 999999999)
                .is("argument(1, 3, 1)", -999999999).is("argument(1, 4, 1)", 7).is("argument(1, 5, 1)", -7)
                .is("argument(1, 6, 1)", -8)
                .wrongAt("read", "#1=A(^1000000000);").wrongAt("read", "#1=A(^0000000000);")
                .wrongAt("read", "#1=A(-^-1);").wrongAt("read", "#1=A(-^);").wrongAt("read", "#1=A(^+1);")
                .wrongAt("read", "#1=A(1 ^2);").wrongAt("read", "#1=A(1^-2);");
        s.of(6, "a TEXT: 0 .. 20 characters between ' and ' ('' is one ' in it; blanks count);")
                .given("", "#1=A('','abcdefghijklmnopqrst','''','  ',''' ''','                    ');")
                .is("argument(1, 0, 1)", 0).is("argument(1, 1, 1)", 20).is("item(1, 1, 19)", 't')
                .is("argument(1, 2, 1)", 1).is("item(1, 2, 0)", 39).is("argument(1, 3, 1)", 2)
                .is("item(1, 3, 1)", 32).is("argument(1, 4, 1)", 3).is("item(1, 4, 0)", 39).is("item(1, 4, 1)", 32)
                .is("item(1, 4, 2)", 39).is("argument(1, 5, 1)", 20)
                .right("read", 1, "#1=A('" + "''".repeat(20) + "');")
                .wrongAt("read", "#1=A(^'" + "''".repeat(21) + "');")
                .wrongAt("read", "#1=A(^'abcdefghijklmnopqrstu');")
                .wrongAt("read", "#1=A(^'" + " ".repeat(21) + "');").wrongAt("read", "#1=A('' ^'');");
        s.of(6, "a whole TEXT,")
                .given("", "#1=A('#2=A(1);$.,()-?a~\"');").is("argument(1, 0, 1)", 18).is("item(1, 0, 16)", '~')
                .is("item(1, 0, 17)", '"').is("count(2)", 1).wrongAt("read", "#1=A('a' ^'b');")
                .wrongAt("read", "#1=A(1^'b');");
    }

    private static void otherArguments(SentencesTest s) {
        s.of(6, "a REFERENCE: # DIGITS (1 .. 999);")
                .given("", "#999=A(#1,# 001);#1=A(#999);").is("argument(999, 0, 1)", 1).is("argument(999, 1, 1)", 1)
                .is("argument(1, 0, 1)", 999).wrongAt("read", "#1=A(#^0);").wrongAt("read", "#1=A(#^1000);")
                .wrongAt("read", "#1=A(#^0001);").wrongAt("read", "#1=A(#^-1);").wrongAt("read", "#1=A(#^);");
        s.of(6, "NOTHING: $;")
                .given("", "#1=A($,$);").is("argument(1, 0, 0)", 6).is("argument(1, 1, 1)", 0)
                .wrongAt("read", "#1=A($^$);").wrongAt("read", "#1=A($^1);").wrongAt("read", "#1=A((^$));");
        s.of(6, "a WORD: . NAME . ;")
                .given("", "#1=A(.X.,. ABCDEFGH .);").is("argument(1, 0, 0)", 5).is("argument(1, 0, 1)", 1)
                .is("argument(1, 1, 1)", 8).is("item(1, 1, 7)", 'H')
                .wrongAt("read", "#1=A(.^.);").wrongAt("read", "#1=A(.^ABCDEFGHI.);").wrongAt("read", "#1=A(.X^);")
                .wrongAt("read", "#1=A(.X ^Y.);").wrongAt("read", "#1=A(.^1.);").wrongAt("read", "#1=A(^X);")
                .wrongAt("read", "#1=A(.X.^.);");
        s.of(6, "a LIST: ( ITEMS ) with 0 .. 6 numbers, or 1 .. 6 references, with , between"
                + " (without items it is one of numbers).")
                .given("", "#1=A((),( ),(-1),(1,2,3,4,5,-6),(#1),(#1,#1,#1,#1,#1,#1));")
                .is("argument(1, 0, 0)", 3).is("argument(1, 0, 1)", 0).is("argument(1, 1, 0)", 3)
                .is("argument(1, 2, 0)", 3).is("argument(1, 2, 1)", 1).is("item(1, 2, 0)", -1)
                .is("argument(1, 3, 1)", 6).is("item(1, 3, 5)", -6).is("argument(1, 4, 0)", 4)
                .is("argument(1, 4, 1)", 1).is("argument(1, 5, 0)", 4).is("argument(1, 5, 1)", 6)
                .wrongAt("read", "#1=A((1,2,3,4,5,6,^7));").wrongAt("read", "#1=A((#1,#1,#1,#1,#1,#1,^#1));")
                .wrongAt("read", "#1=A((1 ^2));").wrongAt("read", "#1=A((1,^));").wrongAt("read", "#1=A((^,1));")
                .wrongAt("read", "#1=A((#1^#1));").wrongAt("read", "#1=A((^()));").wrongAt("read", "#1=A((^'a'));")
                .wrongAt("read", "#1=A((^.X.));").wrongAt("read", "#1=A((^X));");
    }

    private static void words(SentencesTest s) {
        s.of(6, "Blanks may stand between its words, and count for nothing.")
                .right("read", 1, "  #  1  =  A  (  -  1  ,  ''  ,  #  1  ,  $  ,  .  X  .  ,  (  )  ,  (  1  ,"
                        + "  -  2  )  ,  (  #  1  ,  #  1  )  )  ;  ")
                .right("read", 0, " ".repeat(1200)).wrongAt("read", "#1 ^2=A(1);").wrongAt("read", "#1=A ^A(1);")
                .wrongAt("read", "#1=A(1 ^1);").wrongAt("read", "   ^=");
        s.of(6, "DIGITS (1 .. 9, but 1 .. 3 behind #),").right("read", 1, "#1=A(123456789,1);")
                .right("read", 1, "#123=A(#123,(#123));").wrongAt("read", "#1=A(^1234567890);")
                .wrongAt("read", "#^1234=A(1);").wrongAt("read", "#1=A(#^1234);")
                .wrongAt("read", "#1=A((#1,#^1234));").wrongAt("read", "#1=A((1,^1234567890));")
                .wrongAt("read", "#^123456789=A(1);").wrongAt("read", "# ^1234567890=A(1);");
        Case signs = s.of(6, "and each of the signs = ; # ( ) , $ . - and ?;");
        for (String sign : "= ; # ( ) , $ . - ?".split(" ")) {
            signs.wrongAt("read", (sign.equals("(") ? "#1^" : "#1=A^") + sign + sign);
        }
    }

    /** Behind every beginning of a line stands each word, and each sign that is none, that cannot stand there. */
    private static void anotherWord(SentencesTest s) {
        Case c = s.of(6, "another one was to come,");
        String[] words = {"=", ";", "#", "(", ")", ",", "$", ".", "-", "?", "A", "1", "'t'", "a", "+", "~", "\""};
        // What has begun, and the words that may stand behind it.
        String[][] begun = {{"", "#"}, {"#", "1"}, {"#1", "="}, {"#1=", "A"}, {"#1=A", "("},
            {"#1=A(", "# ( $ . - 1 't'"}, {"#1=A(1", ") ,"}, {"#1=A(1,", "# ( $ . - 1 't'"}, {"#1=A(1,.", "A"},
            {"#1=A(1,.X", "."}, {"#1=A(1,.X.", ") ,"}, {"#1=A(1,.X.)", ";"}, {"#1=A(1,.X.);", "#"}, {"#1=A(-", "1"},
            {"#1=A(#", "1"}, {"#1=A(#1", ") ,"}, {"#1=A((", "# ) - 1"}, {"#1=A((1", ") ,"}, {"#1=A((1,", "- 1"},
            {"#1=A((#", "1"}, {"#1=A((#1", ") ,"}, {"#1=A((#1,", "#"}, {"#1=A((1)", ") ,"}, {"#1=A(''", ") ,"},
            {"#1=A($", ") ,"}};
        for (String[] textAndWords : begun) {
            for (String word : words) {
                if (!(" " + textAndWords[1] + " ").contains(" " + word + " ")) {
                    // The blank keeps names and digits apart.
                    c.wrongAt("read", textAndWords[0] + " ^" + word);
                    stillWrongAt(c, textAndWords[0] + " ^" + word);
                }
            }
        }
    }

    /** The place stays the same behind another line, and before whatever might end the line rightly. */
    private static void stillWrongAt(Case c, String marked) {
        for (String rest : new String[] {"", ");", " ;", " 1);", " 1));", "=A(1);", "(1);", ".);", "A.);"}) {
            String text = "#7=B(1);" + marked + rest;
            c.given("", "").says(text.replace("^", "")).is("read()", -1 - text.indexOf('^'));
        }
    }

    private static void wrongPlaces(SentencesTest s) {
        s.of(6, "THE WRONG PLACE is where the first word begins that cannot stand where it stands:")
                .wrongAt("read", "#1=A(^?);#1=A(?);").wrongAt("read", "  ^A=I;#1").wrongAt("read", "#1=A(1);#^0=A('")
                .wrongAt("read", "#1=A(#^0,#0);").wrongAt("read", "#1=A(#2);#^1  'abc");
        s.of(6, "it is too long,").wrongAt("read", "#1=^ABCDEFGHI(1);").wrongAt("read", "#1=A(.^ABCDEFGHI.);")
                .wrongAt("read", "#1=A(^1234567890);").wrongAt("read", "#^0001=A(1);")
                .wrongAt("read", "#1=A(#^0001);").wrongAt("read", "#1=A(1, ^'123456789012345678901');")
                .wrongAt("read", "#1=A((1, ^1234567890));").right("read", 1, "#1=ABCDEFGH(.ABCDEFGH.,123456789);");
        s.of(6, "a number of a line was there or is 0 (at its digits; of references, 0),")
                .wrongAt("read", "#1=A(1);# ^1=A(1);").wrongAt("read", "#1=A(1);#^1")
                .wrongAt("read", "#7=A(1);#1=A(1);#^007=A(1);").wrongAt("read", "# ^0=A(1);")
                .wrongAt("read", "#^00=A(1);").wrongAt("read", "#1=A(# ^0);").wrongAt("read", "#1=A(#^000);")
                .wrongAt("read", "#1=A((#1,# ^0));").right("read", 1, "#1=A(#1,0);");
        s.of(6, "a text has no end (at its beginning),").wrongAt("read", "#1=A(^'abc);")
                .wrongAt("read", "#1=A(1, ^'").wrongAt("read", "#1=A(^''');").wrongAt("read", "#1=A(^'''")
                .wrongAt("read", "#1=A('', ^'abc'');").wrongAt("read", "#1=A(^'" + "a".repeat(50))
                .wrongAt("read", "#1=A(1^'").wrongAt("read", "^'")
                .wrongAt("read", " ".repeat(1192) + "#1=A(^'a ").wrongAt("read", " ".repeat(1192) + "#1=A('a'^");
        s.of(6, "the list's first word of another sort than the first item);").wrongAt("read", "#1=A((1,^#1));")
                .wrongAt("read", "#1=A((#1,^1));").wrongAt("read", "#1=A((#1, ^-1));")
                .wrongAt("read", "#1=A((-1, ^# 1));").wrongAt("read", "#1=A((1,2,^#1,3));")
                .wrongAt("read", "#1=A((#1,#1,#1,#1,#1,^1));").wrongAt("read", "#1=A((1,2,3,4,5,^#1));")
                .wrongAt("read", "#1=A((#1,^'1'));").wrongAt("read", "#1=A((1,^$));")
                .wrongAt("read", "#1=A((1,^(1)));").right("read", 1, "#1=A((1,-2),(#1,#1));");
        s.of(6, "A minus is the place of a number that it begins.").wrongAt("read", "#1=A(1,2,3,4,5,6,7,8, ^-9);")
                .wrongAt("read", "#1=A((1,2,3,4,5,6, ^- 7));").wrongAt("read", "#1=A((#1, ^-2));")
                .wrongAt("read", "#1=A(^-1234567890);").wrongAt("read", "#1=A(^- 1234567890);")
                .wrongAt("read", "#1=A((1,^-1234567890));").wrongAt("read", "#1=A(-^#1);")
                .wrongAt("read", "#1=A(1, -^'a');").right("read", 1, "#1=A(-1,(-1,-2,-3,-4,-5,-6));");
    }

    private static void tooMany(SentencesTest s) {
        s.of(6, "the 41st #,").wrongAt("read", lines(40) + "^#41=A(1);").wrongAt("read", lines(40) + "  ^#")
                .wrongAt("read", lines(40) + "^#1=A(1);").wrongAt("read", lines(40) + "^#0")
                .right("read", 40, lines(40));
        s.of(6, "or the word with which a ninth argument,")
                .wrongAt("read", "#1=A(1,2,3,4,5,6,7,8, ^9);").wrongAt("read", "#1=A(1,2,3,4,5,6,7,8,^'9');")
                .wrongAt("read", "#1=A(1,2,3,4,5,6,7,8,^#9);").wrongAt("read", "#1=A(1,2,3,4,5,6,7,8,^$);")
                .wrongAt("read", "#1=A(1,2,3,4,5,6,7,8,^.X.);").wrongAt("read", "#1=A(1,2,3,4,5,6,7,8,^());")
                .wrongAt("read", "#1=A(1,2,3,4,5,6,7,8,^-9);").wrongAt("read", "#1=A(1,2,3,4,5,6,7,8 ^9);")
                .wrongAt("read", "#1=A(1,2,3,4,5,6,7,8,^);").wrongAt("read", "#1=A(1,2,3,4,5,6,7,8,^;")
                .wrongAt("read", "#1=A(1,2,3,4,5,6,7,8,^,9);").right("read", 1, "#1=A(1,2,3,4,5,6,7,8);");
        s.of(6, "or a seventh item, begins;").wrongAt("read", "#1=A((1,2,3,4,5,6, ^7));")
                .wrongAt("read", "#1=A((1,2,3,4,5,6,^-7));").wrongAt("read", "#1=A((#1,#1,#1,#1,#1,#1, ^#1));")
                .wrongAt("read", "#1=A((#1,#1,#1,#1,#1,#1,^1));").wrongAt("read", "#1=A((1,2,3,4,5,6,^#1));")
                .wrongAt("read", "#1=A((1,2,3,4,5,6 ^7));").wrongAt("read", "#1=A((1,2,3,4,5,6,^));")
                .right("read", 1, "#1=A((1,2,3,4,5,6),(#1,#1,#1,#1,#1,#1));");
    }

    /** The first line and eight others, without a word of more than one character. */
    private static String oneLetterWords(String firstLine) {
        StringBuilder text = new StringBuilder(firstLine);
        for (int i = 1; i <= 7; i++) {
            text.append("#" + i + "=A(" + "(-1,-1,-1,-1,-1,-1),".repeat(7) + "(#1,#2,#3,#4,#5,#6));");
        }
        return text.append("#8=A($,.X.,#9,(-1,1),(#9,#9),-1);").toString();
    }

    /** A line that is cut behind each of its words, with blanks and without. */
    private static void ends(SentencesTest s) {
        Case c = s.of(6, "or the end of the text, if more must come.");
        String[] words = "# 1 = A ( - 1 , '' , # 1 , $ , . X . , ( ) , ( - 1 , 2 ) , ( # 1 , # 1 ) ) ;".split(" ");
        StringBuilder begun = new StringBuilder();
        for (String word : words) {
            begun.append(word);
            if (!word.equals(";")) {
                c.wrongAt("read", begun + "^").wrongAt("read", begun + "   ^");
            }
        }
        c.right("read", 1, begun.toString());
        c.wrongAt("read", "#1=A(1,2,3,4,5,6,7,8,^").wrongAt("read", "#1=A(1,2,3,4,5,6,7,8^")
                .wrongAt("read", "#1=A((1,2,3,4,5,6,^").wrongAt("read", "#1=A((1,2,3,4,5,6^")
                .wrongAt("read", "#1=A(1);#2^")
                // A longer model that was read before brings nothing behind the end.
                .given("", "#1=A(1);#2=A(2);").says("#1=A(3)").changesNothing("read()", -8)
                .given("", "#1=A(#1);").says("#1=A(#1").changesNothing("read()", -8)
                .given("", "#1=A(#1);").says("#1=A(#").changesNothing("read()", -7);
        // A full text whose words are one character each is cut behind each word of its last line.
        for (String first : new String[] {"1", "-1", "(1,1,1,1,1,1)", "(-1,1,1,1,1,1)"}) {
            for (int k = 0; k < 8; k++) {
                String text = oneLetterWords("#9=A(" + first + ",1".repeat(k) + ");");
                c.wrongAt("read", text.substring(0, 1200) + "^");
            }
        }
    }
}
