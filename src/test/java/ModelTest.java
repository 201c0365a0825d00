/** Promises 7 to 15: write, keep, line, told, argument, item, set, wrong, from. */
public final class ModelTest {
    private static final String SCHEMA = "WALL=ITR?M;PLACE=IIIR?;E=E;ALL=ITRLME;MAYBE=I?T?R?L?M?E?;";

    public static void main(String[] args) {
        Due due = new Due();
        write(due);
        writeTooLong(due);
        keep(due);
        line(due);
        told(due);
        argument(due);
        item(due);
        set(due);
        wrong(due);
        from(due);
        due.end();
    }

    private static String written(String model) {
        ExchangeText x = Due.with("", model);
        int length = x.write();
        String text = Due.text(x);
        return length == text.length() ? text : "length " + length + " of " + text;
    }

    private static void write(Due due) {
        due.answers("by numbers", "#2=B(1);#10=A(-2);#100=C(3);", written("#100=C(3); #010 = A ( - 02 );#2=B(001);"));
        due.answers("all sorts", "#1=ABCDEFGH(0,-7,'','a ''b',$,.UP.,(),(1,-2));#2=B(#1,(#1,#2));",
                written("#1=ABCDEFGH(-0,-007,'','a ''b',$,. UP .,( ),(01,-002)); #02=B(#001,(#01,#2));"));
        due.answers("greatest", "#1=A(999999999,-999999999,100000000,10,0);",
                written("#1=A(999999999,-999999999,100000000,010,000);"));
        due.answers("only quotes", "#1=A('''''');", written("#1=A('''''');"));
        due.answers("nothing", "", written(""));
        ExchangeText x = Due.with("", "#1=A(1);");
        Due.say(x, "what was said before");
        due.is("the old text goes", 8, x::write);
        due.answers("the new one", "#1=A(1);", Due.text(x));
        due.is("and can be read", 1, x::read);
    }

    /** 40 lines with 8 numbers each; growing a number by set brings the text over its bound. */
    private static void writeTooLong(Due due) {
        StringBuilder text = new StringBuilder();
        for (int i = 1; i <= 40; i++) {
            text.append('#').append(100 + i).append("=A(1,2,3,4,5,6,7,8);");
        }
        ExchangeText x = Due.with("", text.toString());
        due.is("960 characters", 960, x::write);
        for (int i = 1; i <= 30; i++) {
            x.set(100 + i, 0, -99999999);
        }
        due.is("960 + 30 * 8 characters", 1200, () -> x.write());
        String before = Due.text(x);
        x.set(140, 7, 10);
        x.trim(2);
        due.is("1201 characters", ExchangeText.LONG, x::write);
        due.answers("it changes nothing", before.substring(0, 1198), Due.text(x));
        x.set(140, 6, -1);
        due.is("1202 characters", ExchangeText.LONG, x::write);
        x.set(140, 6, 1);
        x.set(140, 7, 0);
        due.is("1200 again", 1200, x::write);
        due.is("read again", 40, x::read);
        due.is("as it was set", -99999999, () -> x.argument(130, 0, 1));
    }

    private static void keep(Due due) {
        ExchangeText x = Due.with("", "#1=A('abc',5);#2=A(1);");
        due.is("keep", 2, x::keep);
        due.is("the model stays", 2, () -> x.count(2));
        Due.say(x, "#1=A('abd',5);");
        x.read();
        due.is("two are kept", 2, () -> x.count(3));
        due.is("1 is another", 3, () -> x.differs(0, 1));
        due.is("keep again", 1, x::keep);
        due.is("no difference", -1, () -> x.differs(0, 0));
        x.set(1, 1, 6);
        due.is("what is set is not kept", 1, () -> x.differs(0, 0));
        x.read();
        due.is("kept when none is read", 1, () -> x.count(3));
    }

    private static void line(Due due) {
        ExchangeText x = Due.with("", "#7=A(1);#999=A(1);#1=A(1);#50=A(1);");
        due.is("line 0", 1, () -> x.line(0));
        due.is("line 1", 7, () -> x.line(1));
        due.is("line 2", 50, () -> x.line(2));
        due.is("line 3", 999, () -> x.line(3));
        due.is("line 4", -1, () -> x.line(4));
        due.is("line of the greatest", -1, () -> x.line(Integer.MAX_VALUE));
        due.bad("line -1", () -> x.line(-1));
        due.bad("line of the least", () -> x.line(Integer.MIN_VALUE));
    }

    private static void told(Due due) {
        ExchangeText x = Due.with("B=I;A=I;",
                "#1=A(#2,(#2,#3,#2),$);#2=B(#3,1);#3=C(1);#4=A(#5);#5=A(#5);#6=A(#1,#3,(#2));");
        due.is("kind A", 1, () -> x.told(1, 0));
        due.is("kind B", 0, () -> x.told(2, 0));
        due.is("kind C", -1, () -> x.told(3, 0));
        due.is("arguments", 3, () -> x.told(1, 1));
        due.is("references", 4, () -> x.told(1, 2));
        due.is("no references", 0, () -> x.told(3, 2));
        due.is("depth 0", 0, () -> x.told(3, 3));
        due.is("depth 1", 1, () -> x.told(2, 3));
        due.is("depth 2", 2, () -> x.told(1, 3));
        due.is("depth 3", 3, () -> x.told(6, 3));
        due.is("before a ring", -1, () -> x.told(4, 3));
        due.is("on a ring", -1, () -> x.told(5, 3));
        due.bad("what -1", () -> x.told(1, -1));
        due.bad("what 4", () -> x.told(1, 4));
        due.bad("no such line", () -> x.told(7, 0));
        due.bad("line 0", () -> x.told(0, 0));
        due.bad("line -1", () -> x.told(-1, 0));
    }

    private static final String SORTS = "#7=A(-5,'it''s',#7,(4,-5,6),(#7,#7),.UP.,$,());";

    private static void argument(Due due) {
        ExchangeText x = Due.with("", SORTS);
        int[][] want = {{0, -5}, {1, 4}, {2, 7}, {3, 3}, {4, 2}, {5, 2}, {6, 0}, {3, 0}};
        for (int i = 0; i < want.length; i++) {
            int k = i;
            due.is("sort of " + k, want[k][0], () -> x.argument(7, k, 0));
            due.is("value of " + k, want[k][1], () -> x.argument(7, k, 1));
        }
        due.bad("what -1", () -> x.argument(7, 0, -1));
        due.bad("what 2", () -> x.argument(7, 0, 2));
        due.bad("k -1", () -> x.argument(7, -1, 0));
        due.bad("k 8", () -> x.argument(7, 8, 0));
        due.bad("no such line", () -> x.argument(8, 0, 0));
        ExchangeText y = Due.with("", "#1=A(1,2);#2=A(1);");
        due.bad("k of another line", () -> y.argument(2, 1, 0));
    }

    private static void item(Due due) {
        ExchangeText x = Due.with("", SORTS);
        String text = "it's";
        for (int i = 0; i < 4; i++) {
            int c = i;
            due.is("character " + c, text.charAt(c), () -> x.item(7, 1, c));
        }
        due.is("number 0", 4, () -> x.item(7, 3, 0));
        due.is("number 1", -5, () -> x.item(7, 3, 1));
        due.is("number 2", 6, () -> x.item(7, 3, 2));
        due.is("reference", 7, () -> x.item(7, 4, 1));
        due.is("letter 0", 'U', () -> x.item(7, 5, 0));
        due.is("letter 1", 'P', () -> x.item(7, 5, 1));
        int[] sizes = {0, 4, 0, 3, 2, 2, 0, 0};
        for (int i = 0; i < sizes.length; i++) {
            int k = i;
            due.bad("item behind the last of " + k, () -> x.item(7, k, sizes[k]));
            due.bad("item -1 of " + k, () -> x.item(7, k, -1));
            due.bad("greatest item of " + k, () -> x.item(7, k, Integer.MAX_VALUE));
        }
        due.bad("k 8", () -> x.item(7, 8, 0));
        due.bad("k -1", () -> x.item(7, -1, 0));
        due.bad("no such line", () -> x.item(1, 1, 0));
    }

    private static void set(Due due) {
        ExchangeText x = Due.with("", SORTS);
        due.is("set", -5, () -> x.set(7, 0, 999999999));
        due.is("set again", 999999999, () -> x.set(7, 0, -999999999));
        due.is("it is", -999999999, () -> x.argument(7, 0, 1));
        due.bad("too great", () -> x.set(7, 0, 1000000000));
        due.bad("too small", () -> x.set(7, 0, -1000000000));
        due.bad("far too small", () -> x.set(7, 0, Integer.MIN_VALUE));
        for (int i = 1; i < 9; i++) {
            int k = i;
            due.bad("argument " + k + " is no number", () -> x.set(7, k, 1));
        }
        due.bad("k -1", () -> x.set(7, -1, 1));
        due.bad("no such line", () -> x.set(6, 0, 1));
        due.is("it is still", -999999999, () -> x.argument(7, 0, 1));
    }

    private static void wrong(Due due) {
        ExchangeText x = Due.with(SCHEMA, "#1=ALL(1,'',#1,(1),(#1),.A.);#2=ALL(1,'',#1,(),(),.A.);"
                + "#9=NEW(1);#8=PLACE(1,2,3);#7=PLACE(1,2,3,$,5);#6=ALL(1,'',#1,(#1),(1),.A.);"
                + "#5=ALL(1,'',#1,(1),(#1),$);#4=MAYBE($,$,$,$,$,$);#3=PLACE(1,2,3,4);"
                + "#10=PLACE(1,2,3,$);#11=E('A');#12=MAYBE(1,'',#1,(1),(),.A.);#13=ALL(1,'',#1,(1),(2),.A.);");
        int[][] want = {{3, 3, 3}, {5, 3, 5}, {6, 3, 3}, {7, 2, -1}, {8, 2, -1}, {9, 1, -1}, {11, 3, 0},
            {13, 3, 4}, {-1, -1, -1}};
        for (int i = 0; i < want.length; i++) {
            for (int j = 0; j < 3; j++) {
                int k = i;
                int what = j;
                due.is("wrong " + k + " " + what, want[k][what], () -> x.wrong(k, what));
            }
        }
        due.bad("k -1", () -> x.wrong(-1, 0));
        due.bad("what -1", () -> x.wrong(0, -1));
        due.bad("what 3", () -> x.wrong(0, 3));
        due.bad("what 3 of none", () -> x.wrong(99, 3));
        x.schema();
        due.is("without kinds the first is wrong", 1, () -> x.wrong(0, 0));
        due.is("all thirteen are", 13, () -> x.wrong(12, 0));
    }

    private static void from(Due due) {
        ExchangeText x = Due.with("", "#5=A(#5,#1);#4=A((#1,#1),#1);#1=A(1);#3=A(#5);#2=A(1,(#3,#1));");
        due.is("from 1 0", 2, () -> x.from(1, 0));
        due.is("from 1 1", 4, () -> x.from(1, 1));
        due.is("from 1 2", 5, () -> x.from(1, 2));
        due.is("from 1 3", -1, () -> x.from(1, 3));
        due.is("from 5 0", 3, () -> x.from(5, 0));
        due.is("itself", 5, () -> x.from(5, 1));
        due.is("none", -1, () -> x.from(4, 0));
        due.bad("k -1", () -> x.from(1, -1));
        due.bad("no such line", () -> x.from(6, 0));
        due.bad("no such line, nor k", () -> x.from(6, -1));
    }
}
