/** Promises 16 to 20: ring, place, alike, join, differs. */
public final class WaysTest {
    public static void main(String[] args) {
        Due due = new Due();
        ring(due);
        longWays(due);
        place(due);
        alike(due);
        manyWays(due);
        join(due);
        differs(due);
        due.end();
    }

    private static void ring(Due due) {
        ExchangeText x = Due.with("",
                "#9=A(#9);#1=A(#2);#2=A((1),(#3,#5));#3=A(#2);#4=A(#1);#5=A(1);#7=A(#8);#8=A(#6);#6=A(#7,#4);");
        int[] want = {2, 3, 6, 7, 8, 9, -1};
        for (int i = 0; i < want.length; i++) {
            int k = i;
            due.is("ring " + k, want[k], () -> x.ring(k));
        }
        due.is("ring of the greatest", -1, () -> x.ring(Integer.MAX_VALUE));
        due.bad("ring -1", () -> x.ring(-1));
    }

    /** Forty lines one behind another, whichever way their numbers go, and as a ring. */
    private static void longWays(Due due) {
        StringBuilder up = new StringBuilder("#1=A(1,2,3,$);");
        StringBuilder down = new StringBuilder("#40=A(1,2,3,$);");
        StringBuilder round = new StringBuilder("#1=A(1,2,3,#40);");
        for (int i = 2; i <= 40; i++) {
            up.append("#" + i + "=A(1,2,3,#" + (i - 1) + ");");
            round.append("#" + i + "=A(1,2,3,#" + (i - 1) + ");");
            down.append("#" + (41 - i) + "=A(1,2,3,#" + (42 - i) + ");");
        }
        ExchangeText x = Due.with("", up.toString());
        ExchangeText y = Due.with("", down.toString());
        ExchangeText z = Due.with("", round.toString());
        due.is("depth up", 39, () -> x.told(40, 3));
        due.is("depth down", 39, () -> y.told(1, 3));
        due.is("place up", 120, () -> x.place(40, 2));
        due.is("place down", 80, () -> y.place(1, 1));
        due.is("no ring up", -1, () -> x.ring(0));
        due.is("all are on the ring", 40, () -> z.ring(39));
        due.is("no depth", -1, () -> z.told(17, 3));
        due.is("no place", ExchangeText.RING, () -> z.place(17, 0));
        due.is("none are alike", 0, y::join);
        due.is("none of the ring are alike", 0, z::join);
        for (int i = 1; i <= 40; i++) {
            x.set(i, 0, 999999999);
        }
        due.is("the greatest place", 40L * 999999999, () -> x.place(40, 0));
    }

    private static void place(Due due) {
        ExchangeText x = Due.with("", "#1=A(1,2,3,$,5);#2=B(10,20,30,#1);#3=C(100,-200,300,#2,(1));"
                + "#4=A(1,2,3);#5=A(1,2,3,4);#6=A(1,$,3,$);#7=A(7,8,9,#5);#8=A(1,1,1,#8);#9=A(1,1,1,#8);"
                + "#10=A(1,2,3,(#1));#11=A(1,1,1,#12);#12=A(1,2,'3',#11);");
        due.is("without reference", 3, () -> x.place(1, 2));
        due.is("axis 0", 111, () -> x.place(3, 0));
        due.is("axis 1", -178, () -> x.place(3, 1));
        due.is("axis 2", 333, () -> x.place(3, 2));
        due.is("reference to none that is placed", 8, () -> x.place(7, 1));
        due.is("a ring of one", ExchangeText.RING, () -> x.place(8, 0));
        due.is("before a ring", ExchangeText.RING, () -> x.place(9, 1));
        due.is("a ring, but not of placed lines", 1, () -> x.place(11, 1));
        int[] none = {4, 5, 6, 10, 12};
        for (int line : none) {
            due.bad("not placed " + line, () -> x.place(line, 0));
        }
        due.bad("axis -1", () -> x.place(1, -1));
        due.bad("axis 3", () -> x.place(1, 3));
        due.bad("no such line", () -> x.place(13, 0));
        x.set(1, 1, -999999999);
        due.is("after set", -999999999 + 20 - 200, () -> x.place(3, 1));
        ExchangeText y = Due.with("", "#1=A(1,2,3,$);");
        Due.say(y, "#1=A(1,2,3);");
        y.read();
        due.bad("a fourth argument of an earlier model", () -> y.place(1, 0));
    }

    private static void alike(Due due) {
        String model = "#1=A(1);#2=A(1);#3=B(1);#4=A(1,1);#5=A('1');#6=A(#1);#7=A(#2);#8=A(#4);"
                + "#9=A((#1,#2));#10=A((#2,#2));#11=A((#2));#12=A(#12);#13=A(#12);#14=A(#12);#15=A((1,2));"
                + "#16=A((1,2));#17=A((1,3));#18=A(.UP.);#19=A('UP');#20=A('UP');#21=A($);#22=A($);#23=A(());"
                + "#24=A(());#25=A(.UP.);#26=A('UQ');#27=A(#6,#7);#28=A(#7,#6);#29=A(.UQ.);#30=A(-1);";
        int[][] groups = {{1, 2}, {3}, {4}, {5}, {6, 7}, {8}, {9, 10}, {11}, {12}, {13}, {14}, {15, 16}, {17},
            {18, 25}, {19, 20}, {21, 22}, {23, 24}, {26}, {27, 28}, {29}, {30}};
        int[] group = new int[31];
        for (int g = 0; g < groups.length; g++) {
            for (int line : groups[g]) {
                group[line] = g;
            }
        }
        for (int a = 1; a <= 30; a++) {
            ExchangeText x = Due.with("", model);
            for (int b = 1; b <= 30; b++) {
                int one = a;
                int other = b;
                due.is("alike " + a + " " + b, Due.one(group[a] == group[b]), () -> Due.one(x.alike(one, other)));
            }
        }
        ExchangeText z = Due.with("", model);
        due.bad("no such line", () -> Due.one(z.alike(31, 1)));
        due.bad("no such other", () -> Due.one(z.alike(1, 31)));
        due.bad("neither", () -> Due.one(z.alike(0, 0)));
        ExchangeText y = Due.with("", "#1=A(1);#2=A(1);#3=A(#1);#4=A(#2);");
        due.is("alike at first", 1, () -> Due.one(y.alike(3, 4)));
        y.set(2, 0, 2);
        due.is("not after set", 0, () -> Due.one(y.alike(3, 4)));
        y.set(1, 0, 2);
        due.is("but after another", 1, () -> Due.one(y.alike(4, 3)));
        Due.say(y, "#3=A(1);#4=A(2);");
        y.read();
        due.is("not after read", 0, () -> Due.one(y.alike(3, 4)));
    }

    /** The ways double with each line: to walk them all would not end. */
    private static void manyWays(Due due) {
        StringBuilder text = new StringBuilder("#1=A(1);#2=A(1);");
        for (int i = 3; i <= 40; i++) {
            text.append("#" + i + "=A(#" + (i - 2) + ",#" + (i - 2) + ");");
        }
        ExchangeText x = Due.with("", text.toString());
        due.is("depth", 19, () -> x.told(40, 3));
        due.is("alike", 1, () -> Due.one(x.alike(39, 40)));
        due.is("join", 20, x::join);
        due.is("depth is the same", 19, () -> x.told(39, 3));
        due.bad("40 has gone", () -> x.told(40, 3));
    }

    private static void join(Due due) {
        ExchangeText x = Due.with("",
                "#9=B(#5,(#8,#7,#9));#8=A(1);#7=A(2);#5=A(1);#6=A(1);#4=C(#6);#3=C(#8);#2=D((#4,#3));#10=E(#10,#6);");
        x.keep();
        due.is("join", 3, x::join);
        due.is("lines", 6, () -> x.count(2));
        x.write();
        due.answers("what is left",
                "#2=D((#3,#3));#3=C(#5);#5=A(1);#7=A(2);#9=B(#5,(#5,#7,#9));#10=E(#10,#5);", Due.text(x));
        due.bad("6 has gone", () -> x.told(6, 0));
        due.bad("8 has gone", () -> Due.one(x.alike(8, 8)));
        due.is("who refers to 5", 3, () -> x.from(5, 0));
        due.is("who refers to 5 next", 9, () -> x.from(5, 1));
        due.is("who refers to 5 last", 10, () -> x.from(5, 2));
        due.is("line 1", 3, () -> x.line(1));
        due.is("line 6", -1, () -> x.line(6));
        due.is("join again", 0, x::join);
        due.is("kept", 9, () -> x.count(3));
        due.is("keep what is left", 6, x::keep);
        due.is("no difference", -1, () -> x.differs(0, 0));
        due.is("read again", 6, x::read);
        due.is("no difference either", -1, () -> x.differs(0, 0));
        x.set(7, 0, 1);
        due.is("join after set", 1, x::join);
        due.is("5 stays", 5, () -> x.item(9, 1, 1));
    }

    private static void differs(Due due) {
        ExchangeText x = Due.with("", "#1=A(1);#3=A('a');#5=A(#1);#7=A((1,2));#9=A((#1,#3));#11=A(.U.);#13=A(1);"
                + "#15=A(1);#17=A('ab');#19=A($);#21=A(());#23=A(1,2);#25=A('X');#27=A((1));");
        due.is("nothing was kept", 1, () -> x.differs(0, 0));
        due.is("it was not there", 2, () -> x.differs(0, 1));
        due.is("fourteen of them", 27, () -> x.differs(13, 0));
        due.is("and no more", -1, () -> x.differs(14, 1));
        x.keep();
        due.is("the same", -1, () -> x.differs(0, 1));
        Due.say(x, "#27=A((1,1));#2=A(1);#3=A('b');#5=A(#3);#7=A((1,3));#9=A((#3,#3));#11=A(.V.);#13=B(1);"
                + "#17=A('ab');#19=A(0);#21=A((1));#23=A(1);#25=A(.X.);#30=A(1);");
        x.read();
        int[][] want = {{1, 1}, {2, 2}, {3, 3}, {5, 3}, {7, 3}, {9, 3}, {11, 3}, {13, 3}, {15, 1}, {19, 3}, {21, 3},
            {23, 3}, {25, 3}, {27, 3}, {30, 2}, {-1, -1}};
        for (int i = 0; i < want.length; i++) {
            int k = i;
            due.is("differs number " + k, want[k][0], () -> x.differs(k, 0));
            due.is("differs how " + k, want[k][1], () -> x.differs(k, 1));
        }
        due.bad("k -1", () -> x.differs(-1, 0));
        due.bad("what -1", () -> x.differs(0, -1));
        due.bad("what 2", () -> x.differs(0, 2));
        due.bad("what 2 of none", () -> x.differs(99, 2));
        x.read();
        due.is("all have gone", 1, () -> x.differs(13, 1));
        due.is("the last that has gone", 27, () -> x.differs(13, 0));
        due.is("no other has", -1, () -> x.differs(14, 0));
    }
}
