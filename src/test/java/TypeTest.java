/** Promises 5, 10 and 11: types with their parameters, and codes. */
public final class TypeTest {
    private static final Checks CHECKS = new Checks("TypeTest");

    public static void main(String[] args) {
        types();
        wrongTypes();
        comments();
        parameters();
        wrongParameters();
        boundaries();
        codes();
        wrongPlaces();
        CHECKS.finish();
    }

    private static String typed(String text) {
        return "content-type:" + text + "\r\n\r\n";
    }

    private static void types() {
        CHECKS.same("type without a field", Mail.typeOf(CHECKS.stands("\r\n", 1), 0), "text/plain");
        CHECKS.same("small letters", Mail.typeOf(CHECKS.stands(typed("TexT/HTML"), 1), 0), "text/html");
        CHECKS.same("all signs", Mail.typeOf(CHECKS.stands(typed("!#$%&'*+-./^_`{|}~"), 1), 0), "!#$%&'*+-./^_`{|}~");
        CHECKS.same("space", Mail.typeOf(CHECKS.stands(typed(" \t(x) a\r\n (y)/\r\n\tb (z)"), 1), 0), "a/b");
        String sixty = "t".repeat(60);
        CHECKS.same("60 bytes", Mail.typeOf(CHECKS.stands(typed(sixty + "/" + sixty), 1), 0), sixty + "/" + sixty);
    }

    private static void wrongTypes() {
        String sixty = "t".repeat(60);
        CHECKS.faultAtMark(typed(sixty + "↑t/a"));
        CHECKS.faultAtMark(typed("a/" + sixty + "↑t"));
        CHECKS.faultAtMark(typed("↑"));
        CHECKS.faultAtMark(typed("  ↑"));
        CHECKS.faultAtMark(typed("\r\n \r\n ↑"));
        CHECKS.faultAtMark(typed(" a↑"));
        CHECKS.faultAtMark(typed(" a/↑"));
        CHECKS.faultAtMark(typed("↑/b"));
        CHECKS.faultAtMark(typed("a ↑b/c"));
        CHECKS.faultAtMark(typed("a/b ↑c"));
        CHECKS.faultAtMark(typed("a/b↑/c"));
        CHECKS.faultAtMark(typed("↑\"a\"/b"));
        for (char c : "<>@,:\\\")[]?=".toCharArray()) {
            CHECKS.faultAtMark(typed("a/b↑" + c));
            CHECKS.faultAtMark(typed("↑" + c));
        }
        CHECKS.faultAtMark(typed("a/b\r\n ↑c"));
    }

    private static void comments() {
        String ten = "(".repeat(10) + ")".repeat(10);
        CHECKS.stands(typed(ten + "a/b" + ten), 1);
        CHECKS.stands(typed("()()(((x)y)z)a/b(\\()(\\))(\\\\)(\"<>@\t)"), 1);
        CHECKS.stands(typed("(a\r\n b)a/b"), 1);
        CHECKS.faultAtMark(typed("((((((((((↑(x)))))))))))a/b"));
        CHECKS.faultAtMark(typed("a/b((((((((((↑("));
        CHECKS.faultAtMark(typed("a/b(x↑"));
        CHECKS.faultAtMark(typed("a/b(x\\)↑"));
        CHECKS.faultAtMark(typed("a/b(x\\↑"));
        CHECKS.faultAtMark(typed("a/b(x)↑)"));
        CHECKS.stands(typed("a/b((((((((((\\(\\())))))))))"), 1);
    }

    private static void parameters() {
        MessageTree tree = CHECKS.stands(typed("a/b;Charset=UTF-8 ; (c) X (c) = (c) \"a \\\"\\\\\\b(c)\"(c);y=\"\";z=~"), 1);
        CHECKS.same("parameters", tree.entity(0, 5), 4);
        CHECKS.same("name 0", Mail.parameterName(tree, 0, 0), "charset");
        CHECKS.same("value 0", Mail.parameterValue(tree, 0, 0), "UTF-8");
        CHECKS.same("name 1", Mail.parameterName(tree, 0, 1), "x");
        CHECKS.same("value 1", Mail.parameterValue(tree, 0, 1), "a \"\\b(c)");
        CHECKS.same("value 2", Mail.parameterValue(tree, 0, 2), "");
        CHECKS.same("value 3", Mail.parameterValue(tree, 0, 3), "~");
        MessageTree folded = CHECKS.stands(typed("a/b;x=\"1\r\n 2\\\r\n\t3\""), 1);
        CHECKS.same("a folded value", Mail.parameterValue(folded, 0, 0), "1 2\t3");
        MessageTree six = CHECKS.stands(typed("a/b;a=1;b=2;c=3;d=4;e=5;f=6"), 1);
        CHECKS.same("six", six.entity(0, 5), 6);
        CHECKS.same("the sixth", Mail.parameterName(six, 0, 5) + Mail.parameterValue(six, 0, 5), "f6");
        CHECKS.same("none", CHECKS.stands(typed("a/b"), 1).entity(0, 5), 0);
    }

    private static void wrongParameters() {
        CHECKS.faultAtMark(typed("a/b;a=1;b=2;c=3;d=4;e=5;f=6 ↑;g=7"));
        CHECKS.faultAtMark(typed("a/b;↑"));
        CHECKS.faultAtMark(typed("a/b;↑;"));
        CHECKS.faultAtMark(typed("a/b;a↑"));
        CHECKS.faultAtMark(typed("a/b;a↑;"));
        CHECKS.faultAtMark(typed("a/b;a=↑"));
        CHECKS.faultAtMark(typed("a/b;a=↑/"));
        CHECKS.faultAtMark(typed("a/b;a=1 ↑2"));
        CHECKS.faultAtMark(typed("a/b;a=\"x\" ↑\"y\""));
        CHECKS.faultAtMark(typed("a/b;a=\"x↑"));
        CHECKS.faultAtMark(typed("a/b;a=\"x\\\"↑"));
        CHECKS.faultAtMark(typed("a/b;a=\"x\\↑"));
        CHECKS.faultAtMark(typed("a/b;abc=1;x=2; ↑ABC=1"));
        CHECKS.faultAtMark(typed("a/b;abc=1;↑abc"));
        CHECKS.stands(typed("a/b;abc=1;abcd=1;ab=1"), 1);
        String hundred = "v".repeat(100);
        CHECKS.stands(typed("a/b;a=\"" + hundred + "\""), 1);
        CHECKS.faultAtMark(typed("a/b;a=\"" + hundred + "↑v\""));
        CHECKS.faultAtMark(typed("a/b;a=\"" + hundred + "↑\\v\""));
        CHECKS.faultAtMark(typed("a/b;a=\"" + hundred + "↑"));
        CHECKS.stands(typed("a/b;a=\"" + "\\v".repeat(100) + "\""), 1);
        CHECKS.faultAtMark(typed("a/b;a=\"" + "\\v".repeat(100) + "↑\\v\""));
        CHECKS.faultAtMark(typed("a/b;a=" + "v".repeat(60) + "↑v"));
        CHECKS.faultAtMark(typed("a/b;" + "v".repeat(60) + "↑v=1"));
    }

    private static void boundaries() {
        CHECKS.faultAtMark(typed(" ↑multipart/a"));
        CHECKS.faultAtMark(typed(" ↑Multipart/a;x=boundary"));
        CHECKS.faultAtMark(typed("↑multipart/a;boundary=\"\""));
        CHECKS.faultAtMark(typed("↑multipart/a;boundary=\"a \""));
        CHECKS.faultAtMark(typed("↑multipart/a;boundary=a*b"));
        CHECKS.faultAtMark(typed("↑multipart/a;boundary=\"a\tb\""));
        CHECKS.faultAtMark(typed("↑multipart/a;boundary=\"" + "b".repeat(71) + "\""));
        CHECKS.faultAtMark(typed("multipart/a;boundary=* ↑x"));
        CHECKS.faultAtMark("content-type: ↑multipart/a\r\ndate: x\r\n\r\n");
        CHECKS.faultAtMark("date: ↑x\r\ncontent-type: multipart/a\r\n\r\n");
        String all = " azAZ09'()+_,-./:=?";
        CHECKS.stands(typed("multipart/a;x=y;BOUNDARY=\"" + all + "\"") + "--" + all + "\r\n\r\n\r\n--" + all + "--", 2);
        String most = "b".repeat(70);
        CHECKS.stands(typed("multipart/a;boundary=\"" + most + "\"") + "--" + most + "\r\n\r\n\r\n--" + most + "--", 2);
        CHECKS.stands(typed("text/a;boundary=*"), 1);
        CHECKS.stands(typed("multiparts/a"), 1);
    }

    private static void codes() {
        String[] names = {"7bit", "8BIT", "Binary", "base64", "Quoted-Printable"};
        for (int code = 0; code < names.length; code++) {
            MessageTree tree = CHECKS.stands("content-transfer-encoding: (c) " + names[code] + " (c)\r\n\r\n", 1);
            CHECKS.same("code " + names[code], tree.entity(0, 4), code);
        }
        CHECKS.same("no code", CHECKS.stands("\r\n", 1).entity(0, 4), 0);
        CHECKS.faultAtMark("content-transfer-encoding: (c) ↑7bits\r\n\r\n");
        CHECKS.faultAtMark("content-transfer-encoding: ↑bit x\r\n\r\n");
        CHECKS.faultAtMark("content-transfer-encoding: 7bit ↑x\r\n\r\n");
        CHECKS.faultAtMark("content-transfer-encoding: 7bit↑;\r\n\r\n");
        CHECKS.faultAtMark("content-transfer-encoding:↑\r\n\r\n");
        CHECKS.faultAtMark("content-transfer-encoding: ↑\"7bit\"\r\n\r\n");
        String multipart = "content-type: multipart/a;boundary=b\r\n";
        String body = "\r\n--b\r\n\r\n\r\n--b--";
        CHECKS.stands(multipart + "content-transfer-encoding: 7bit\r\n" + body, 2);
        CHECKS.stands(multipart + "content-transfer-encoding: 8bit\r\n" + body, 2);
        MessageTree binary = CHECKS.stands("content-transfer-encoding: binary\r\n" + multipart + body, 2);
        CHECKS.same("code of a multipart", binary.entity(0, 4), 2);
        CHECKS.faultAtMark(multipart + "content-transfer-encoding: ↑base64\r\n" + body);
        CHECKS.faultAtMark("content-transfer-encoding: (c)↑quoted-printable\r\n" + multipart + body);
        CHECKS.faultAtMark(multipart + "content-transfer-encoding: base64\r\ndate: ↑x\r\n" + body);
        CHECKS.faultAtMark(multipart + "content-transfer-encoding: ↑base64\r\n\r\nno delimiter");
    }

    private static void wrongPlaces() {
        MessageTree tree = CHECKS.stands(typed("ab/cde;x=yz"), 1);
        CHECKS.same("type's second letter", tree.type(0, 0, 1), 'b');
        CHECKS.same("subtype's size", tree.type(0, 1, -1), 3);
        CHECKS.outside("type of entity 1", () -> tree.type(1, 0, -1));
        CHECKS.outside("type of entity -1", () -> tree.type(-1, 0, -1));
        CHECKS.outside("type which 2", () -> tree.type(0, 2, -1));
        CHECKS.outside("type which -1", () -> tree.type(0, -1, -1));
        CHECKS.outside("type behind", () -> tree.type(0, 0, 2));
        CHECKS.outside("type before", () -> tree.type(0, 0, -2));
        CHECKS.same("parameter's value's second", tree.parameter(0, 0, 1, 1), 'z');
        CHECKS.same("parameter's name's size", tree.parameter(0, 0, 0, -1), 1);
        CHECKS.outside("parameter of entity 1", () -> tree.parameter(1, 0, 0, -1));
        CHECKS.outside("parameter 1", () -> tree.parameter(0, 1, 0, -1));
        CHECKS.outside("parameter -1", () -> tree.parameter(0, -1, 0, -1));
        CHECKS.outside("parameter which 2", () -> tree.parameter(0, 0, 2, -1));
        CHECKS.outside("parameter which -1", () -> tree.parameter(0, 0, -1, -1));
        CHECKS.outside("parameter behind", () -> tree.parameter(0, 0, 0, 1));
        CHECKS.outside("parameter before", () -> tree.parameter(0, 0, 0, -2));
    }
}
