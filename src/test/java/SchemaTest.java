/** Promise 5: schema. */
public final class SchemaTest {
    public static void main(String[] args) {
        Due due = new Due();
        right(due);
        wrongPlaces(due);
        kindsAreOthers(due);
        due.end();
    }

    private static void right(Due due) {
        due.schema(0, "");
        due.schema(0, "   ");
        due.schema(1, "A=I;");
        due.schema(1, "ABCDEFGH=ITRLMEI?T?;");
        due.schema(1, "I=I;");
        due.schema(2, "  A = I ? T R? ;  B=M ;  ");
        due.schema(12, "A=I;B=I;C=I;D=I;E=I;F=I;G=I;H=I;I=I;J=I;K=I;L=I;");
        due.schema(2, "A=I;AA=I;");
        due.schema(1, "A=I?I?I?I?I?I?I?I?;");
    }

    private static void wrongPlaces(Due due) {
        due.schemaWrongAt("A^");
        due.schemaWrongAt("A  ^");
        due.schemaWrongAt("A=^");
        due.schemaWrongAt("A=I^");
        due.schemaWrongAt("A=I?^");
        due.schemaWrongAt("A=I; B^");
        due.schemaWrongAt("^=I;");
        due.schemaWrongAt("^a=I;");
        due.schemaWrongAt("^1=I;");
        due.schemaWrongAt("^ABCDEFGHI=I;");
        due.schemaWrongAt("AB ^C=I;");
        due.schemaWrongAt("A^;");
        due.schemaWrongAt("A^1=I;");
        due.schemaWrongAt("A=^;");
        due.schemaWrongAt("A=^?;");
        due.schemaWrongAt("A=^X;");
        due.schemaWrongAt("A=^i;");
        due.schemaWrongAt("A=II^X;");
        due.schemaWrongAt("A=I ^B=I;");
        due.schemaWrongAt("A=I?^?;");
        due.schemaWrongAt("A=I^,I;");
        due.schemaWrongAt("A=I;^;");
        due.schemaWrongAt("A=I;^A=T;");
        due.schemaWrongAt("A=I;B=I; ^A");
        due.schemaWrongAt("A=IIIIIIII^I;");
        due.schemaWrongAt("A=IIIIIIII? ^I;");
        due.schemaWrongAt("A=IIIIIIII^");
        due.schemaWrongAt("A=I;B=I;C=I;D=I;E=I;F=I;G=I;H=I;I=I;J=I;K=I;L=I; ^M=I;");
        due.schemaWrongAt("A=I;^'A'=I;");
        due.schemaWrongAt("A=^'I;");
        due.schemaWrongAt("^#1=A(1);");
    }

    private static void kindsAreOthers(Due due) {
        ExchangeText x = Due.with("A=I;B=TT;", "#1=A(1);#2=B(1);#3=C(1);");
        due.is("A is 0", 0, () -> x.told(1, 0));
        due.is("B is 1", 1, () -> x.told(2, 0));
        due.is("C is none", -1, () -> x.told(3, 0));
        Due.say(x, "C=I;A=I;");
        due.is("other kinds", 2, x::schema);
        due.is("A is 1", 1, () -> x.told(1, 0));
        due.is("B is none", -1, () -> x.told(2, 0));
        due.is("C is 0", 0, () -> x.told(3, 0));
        due.is("no kinds", 0, x::schema);
        due.is("A is none", -1, () -> x.told(1, 0));
        due.is("no kinds are left", 0, () -> x.count(1));
    }
}
