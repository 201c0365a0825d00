/** Promise 6: read. */
public final class ReadTest {
    public static void main(String[] args) {
        Due due = new Due();
        right(due);
        wrongHeads(due);
        wrongArguments(due);
        wrongLists(due);
        tooMany(due);
        lost(due);
        due.end();
    }

    private static void right(Due due) {
        due.model(0, "");
        due.model(0, "    ");
        due.model(1, "#1=A(1);");
        due.model(1, "  # 1 = A ( - 1 , ' ' , # 1 , $ , . UP . , ( ) , ( 1 , - 2 ) , ( # 1 ) ) ; ");
        due.model(1, "#999=ABCDEFGH(-999999999,000000001,#999);");
        due.model(2, "#001=A(#02);#2=A(#001);");
        due.model(1, "#1=A('abcdefghijklmnopqrst');");
        due.model(1, "#1=A('''''''''''''''''''''''''''''''''''''''''');");
        due.model(1, "#1=A('#1=A(1);,$.()');");
        due.model(1, "#1=A((1,2,3,4,5,6),(#1,#1,#1,#1,#1,#1),.ABCDEFGH.);");
        due.model(1, "#1=A(-0,0);");
    }

    private static void wrongHeads(Due due) {
        due.modelWrongAt("#^");
        due.modelWrongAt("#  ^");
        due.modelWrongAt("^1=A(1);");
        due.modelWrongAt("^A=I;");
        due.modelWrongAt("#^A=A(1);");
        due.modelWrongAt("#^0=A(1);");
        due.modelWrongAt("#^000=A(1);");
        due.modelWrongAt("# ^1000=A(1);");
        due.modelWrongAt("#^0001=A(1);");
        due.modelWrongAt("#^-1=A(1);");
        due.modelWrongAt("#1 ^2=A(1);");
        due.modelWrongAt("#1^A(1);");
        due.modelWrongAt("#1=^(1);");
        due.modelWrongAt("#1=^a(1);");
        due.modelWrongAt("#1=^1(1);");
        due.modelWrongAt("#1=^ABCDEFGHI(1);");
        due.modelWrongAt("#1=A ^B(1);");
        due.modelWrongAt("#1=A^;");
        due.modelWrongAt("#1=A(1)^");
        due.modelWrongAt("#1=A(1) ^#2=A(1);");
        due.modelWrongAt("#1=A(1);^;");
        due.modelWrongAt("#1=A(1);#^1=A(2);");
        due.modelWrongAt("#1=A(1);#2=A(1);# ^001=A(2);");
        due.modelWrongAt("#1=A(#2);#2=A(#3);#^2");
    }

    private static void wrongArguments(Due due) {
        due.modelWrongAt("#1=A(^);");
        due.modelWrongAt("#1=A(1,^);");
        due.modelWrongAt("#1=A(^,1);");
        due.modelWrongAt("#1=A(1^;");
        due.modelWrongAt("#1=A(1 ^2);");
        due.modelWrongAt("#1=A(1^A);");
        due.modelWrongAt("#1=A(^A);");
        due.modelWrongAt("#1=A(^?);");
        due.modelWrongAt("#1=A(^+1);");
        due.modelWrongAt("#1=A(^1234567890);");
        due.modelWrongAt("#1=A(1,^0000000000);");
        due.modelWrongAt("#1=A(-^);");
        due.modelWrongAt("#1=A(-^-1);");
        due.modelWrongAt("#1=A(- ^");
        due.modelWrongAt("#1=A(-^#1);");
        // A minus is the place of a number that it begins.
        due.modelWrongAt("#1=A(^-1234567890);");
        due.modelWrongAt("#1=A(1, ^- 1234567890);");
        due.modelWrongAt("#1=A(#^);");
        due.modelWrongAt("#1=A(#^0);");
        due.modelWrongAt("#1=A(#^1000);");
        due.modelWrongAt("#1=A(#^A);");
        due.modelWrongAt("#1=A(.^.);");
        due.modelWrongAt("#1=A(.^a.);");
        due.modelWrongAt("#1=A(.A^);");
        due.modelWrongAt("#1=A(.A ^B.);");
        due.modelWrongAt("#1=A(.^ABCDEFGHI.);");
        due.modelWrongAt("#1=A(.^1.);");
        due.modelWrongAt("#1=A(^'abc);");
        due.modelWrongAt("#1=A(^''');");
        due.modelWrongAt("#1=A(1,  ^'");
        due.modelWrongAt("#1=A(^'abcdefghijklmnopqrstu');");
        due.modelWrongAt("#1=A('a' ^'b');");
        due.modelWrongAt("#1=A($^$);");
        due.modelWrongAt("#1=A(1,2,3,4,5,6,7,8, ^9);");
        due.modelWrongAt("#1=A(1,2,3,4,5,6,7,8, ^-9);");
        due.modelWrongAt("#1=A(1,2,3,4,5,6,7,8,^(9));");
        due.modelWrongAt("#1=A(1,2,3,4,5,6,7,8,^");
        due.modelWrongAt("#1=A(1,2,3,4,5,6,7,8 ^9);");
    }

    private static void wrongLists(Due due) {
        due.modelWrongAt("#1=A((^");
        due.modelWrongAt("#1=A((^,1));");
        due.modelWrongAt("#1=A((1,^));");
        due.modelWrongAt("#1=A((1 ^2));");
        due.modelWrongAt("#1=A((1,^#1));");
        due.modelWrongAt("#1=A((-1,2,^#1));");
        due.modelWrongAt("#1=A((#1,^1));");
        due.modelWrongAt("#1=A((#1, ^-1));");
        due.modelWrongAt("#1=A((#1,#^0));");
        due.modelWrongAt("#1=A((#1,#^1000));");
        due.modelWrongAt("#1=A((^'a'));");
        due.modelWrongAt("#1=A((^.A.));");
        due.modelWrongAt("#1=A((^$));");
        due.modelWrongAt("#1=A((^(1)));");
        due.modelWrongAt("#1=A((1,^$));");
        due.modelWrongAt("#1=A((1,2,3,4,5,6,^7));");
        due.modelWrongAt("#1=A((1,2,3,4,5,6, ^-7));");
        due.modelWrongAt("#1=A((#1,#1,#1,#1,#1,#1,^#1));");
        due.modelWrongAt("#1=A((1,2,3,4,5,6 ^7));");
        due.modelWrongAt("#1=A((1,^1234567890));");
        due.modelWrongAt("#1=A((1)^;");
    }

    private static void tooMany(Due due) {
        StringBuilder forty = new StringBuilder();
        for (int i = 40; i > 0; i--) {
            forty.append('#').append(i).append("=A(1);");
        }
        due.model(40, forty.toString());
        due.modelWrongAt(forty + " ^#41=A(1);");
        due.modelWrongAt(forty + "^#1=A(1);");
        due.modelWrongAt(forty + "^x");
        due.model(40, forty + " ");
    }

    private static void lost(Due due) {
        due.model(-10001, "#1=A(#2);");
        due.model(-10003, "#1=A(1);#3=A((#1,#4));#2=A(#9);");
        due.model(-10999, "#999=A(1,#998);#1=A(#2);");
        due.modelWrongAt("#1=A(#2);#3=A(#3)^");
        due.model(2, "#1=A(#2);#2=A(1);");
    }
}
