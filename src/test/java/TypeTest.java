/** Terms 2 as to TOKEN, QUOTED and the texts of kinds 1 and 2; promises 10 and 11. */
public final class TypeTest {
    private static final Checks CHECKS = new Checks("TypeTest");
    private static final String BODY = "--x\r\n\r\n\r\n--x--";

    public static void main(String[] args) {
        types();
        bytesOfTokens();
        sizesOfTokens();
        quoted();
        wrongTypes();
        smallLetters();
        parameters();
        sixParameters();
        wrongParameters();
        sizesOfValues();
        namesTwice();
        boundaryNeeded();
        bytesOfBoundaries();
        sizesOfBoundaries();
        boundaryBehindAllBytes();
        codes();
        codesOfMultiparts();
        withoutFields();
        typeAnswers();
        parameterAnswers();
        CHECKS.finish();
    }

    private static String typed(String text) {
        return "content-type:" + text + "\r\n\r\n";
    }

    private static void types() {
        CHECKS.asked("1: TOKEN / TOKEN, then none to six of ; TOKEN = VALUE");
        CHECKS.same("type", Mail.typeOf(CHECKS.stands(typed("a/b"), 1), 0), "a/b");
        CHECKS.same("all signs", Mail.typeOf(CHECKS.stands(typed("!#$%&'*+-./^_`{|}~"), 1), 0), "!#$%&'*+-./^_`{|}~");
        CHECKS.same("space", Mail.typeOf(CHECKS.stands(typed(" \t(x) a\r\n (y)/\r\n\tb (z)"), 1), 0), "a/b");
    }

    private static void bytesOfTokens() {
        CHECKS.asked("TOKEN: 1 .. 60 bytes 33 .. 126 but ( ) < > @ , ; : \\ \" / [ ] ? = (a 61st cannot stand).");
        for (char c : Mail.BYTES) {
            if (c != '(' && c != ' ' && c != '\t') {
                boolean right = Mail.isIn(Mail.TOKEN_BYTES, c);
                CHECKS.standsOrFaults(typed("↑" + c + "/b"), right);
                CHECKS.standsOrFaults(typed("a/↑" + c), right);
                CHECKS.standsOrFaults(typed("a/b;↑" + c + "=d"), right);
                if (c != '"') {
                    CHECKS.standsOrFaults(typed("a/b;c=↑" + c), right);
                }
                if (c != ';') {
                    CHECKS.standsOrFaults(typed("a/x↑" + c), right);
                    CHECKS.standsOrFaults(typed("a/b;c=x↑" + c), right);
                }
                CHECKS.faultAtMark("content-transfer-encoding: " + (right ? "↑7bit" : "7bit↑") + c + "\r\n\r\n");
            }
        }
    }

    private static void sizesOfTokens() {
        CHECKS.asked("TOKEN: 1 .. 60 bytes 33 .. 126 but ( ) < > @ , ; : \\ \" / [ ] ? = (a 61st cannot stand).");
        String sixty = "t".repeat(60);
        MessageTree tree = CHECKS.stands(typed(sixty + "/" + sixty + ";" + sixty + "=" + sixty), 1);
        CHECKS.same("types of 60 bytes", Mail.typeOf(tree, 0), sixty + "/" + sixty);
        CHECKS.same("a name of 60 bytes", Mail.parameterName(tree, 0, 0), sixty);
        CHECKS.same("a value of 60 bytes", Mail.parameterValue(tree, 0, 0), sixty);
        CHECKS.faultAtMark(typed(sixty + "↑t/a"));
        CHECKS.faultAtMark(typed("a/" + sixty + "↑t"));
        CHECKS.faultAtMark(typed("a/" + sixty + "↑ttt;b=c"));
        CHECKS.faultAtMark(typed("a/b;" + sixty + "↑t=1"));
        CHECKS.faultAtMark(typed("a/b;c=" + sixty + "↑t"));
        CHECKS.faultAtMark(typed("a/b;" + sixty + "=1;" + sixty + "↑t=1"));
        CHECKS.faultAtMark("content-transfer-encoding: " + sixty + "↑t\r\n\r\n");
        CHECKS.faultAtMark("content-transfer-encoding: ↑" + sixty + "\r\n\r\n");
    }

    private static void quoted() {
        CHECKS.asked("QUOTED: \", bytes but \" and \\ , or \\ and any byte, \".");
        for (char c : Mail.BYTES) {
            if (c != '"' && c != '\\') {
                CHECKS.standsOrFaults(typed("a/b;c=\"↑" + c + "\""), Mail.inField(c));
            }
            CHECKS.standsOrFaults(typed("a/b;c=\"\\↑" + c + "\""), Mail.inField(c));
            if (Mail.inField(c)) {
                MessageTree tree = CHECKS.stands(typed("a/b;c=\"\\" + c + "x\""), 1);
                CHECKS.same("what \\" + c + " means", Mail.parameterValue(tree, 0, 0), c + "x");
            }
        }
        MessageTree folded = CHECKS.stands(typed("a/b;x=\"1\r\n 2\\\r\n\t3\\\\\\\"\""), 1);
        CHECKS.same("a folded value", Mail.parameterValue(folded, 0, 0), "1 2\t3\\\"");
        CHECKS.same("an empty value", Mail.parameterValue(CHECKS.stands(typed("a/b;x=\"\""), 1), 0, 0), "");
        CHECKS.faultAtMark(typed("a/b;a=\"↑"));
        CHECKS.faultAtMark(typed("a/b;a=\"x↑"));
        CHECKS.faultAtMark(typed("a/b;a=\"x\\\"↑"));
        CHECKS.faultAtMark(typed("a/b;a=\"x\\↑"));
        CHECKS.faultAtMark(typed("a/b;a=\"x\\\\\"↑\""));
    }

    private static void wrongTypes() {
        CHECKS.asked("a FAULT is the first byte that cannot stand");
        CHECKS.faultAtMark(typed("↑"));
        CHECKS.faultAtMark(typed("  ↑"));
        CHECKS.faultAtMark(typed("\r\n \r\n ↑"));
        CHECKS.faultAtMark(typed(" a↑"));
        CHECKS.faultAtMark(typed(" a/↑"));
        CHECKS.faultAtMark(typed("↑/b"));
        CHECKS.faultAtMark(typed("a ↑b/c"));
        CHECKS.faultAtMark(typed("a/b ↑c"));
        CHECKS.faultAtMark(typed("a/b↑/c"));
        CHECKS.faultAtMark(typed("a↑;b=c"));
        CHECKS.faultAtMark(typed("↑\"a\"/b"));
        CHECKS.faultAtMark(typed("a/↑\"b\""));
        CHECKS.faultAtMark(typed("a/b\r\n ↑c"));
    }

    private static void smallLetters() {
        CHECKS.asked("what is told of TYPES, names of parameters, and domains has small ones");
        String great = "ABCDEFGHIJKLMNOPQRSTUVWXYZ";
        String signs = "09!#$%&'*+-.^_`{|}~";
        MessageTree tree = CHECKS.stands(typed(great + "/" + signs + great + ";" + great + signs + "=" + great), 1);
        CHECKS.same("type", Mail.typeOf(tree, 0), great.toLowerCase() + "/" + signs + great.toLowerCase());
        CHECKS.same("name", Mail.parameterName(tree, 0, 0), great.toLowerCase() + signs);
        CHECKS.same("a value stays as it is", Mail.parameterValue(tree, 0, 0), great);
        MessageTree quoted = CHECKS.stands(typed("a/b;c=\"" + great + "@[\\\\]\""), 1);
        CHECKS.same("a quoted value stays too", Mail.parameterValue(quoted, 0, 0), great + "@[\\]");
    }

    private static void parameters() {
        CHECKS.asked("a VALUE being a TOKEN or QUOTED");
        MessageTree tree = CHECKS.stands(typed("a/b;Charset=UTF-8 ; (c) X (c) = (c) \"a \\\"\\\\\\b(c)\"(c);y=\"\";z=~"), 1);
        CHECKS.same("parameters", tree.entity(0, 5), 4);
        CHECKS.same("name 0", Mail.parameterName(tree, 0, 0), "charset");
        CHECKS.same("value 0", Mail.parameterValue(tree, 0, 0), "UTF-8");
        CHECKS.same("name 1", Mail.parameterName(tree, 0, 1), "x");
        CHECKS.same("value 1", Mail.parameterValue(tree, 0, 1), "a \"\\b(c)");
        CHECKS.same("value 2", Mail.parameterValue(tree, 0, 2), "");
        CHECKS.same("value 3", Mail.parameterValue(tree, 0, 3), "~");
    }

    private static void sixParameters() {
        CHECKS.asked("then none to six of ; TOKEN = VALUE");
        String all = ";a=1;b=2;c=3;d=4;e=5;f=6";
        for (int count = 0; count <= 6; count++) {
            MessageTree tree = CHECKS.stands(typed("a/b" + all.substring(0, 4 * count)), 1);
            CHECKS.same("parameters", tree.entity(0, 5), count);
        }
        MessageTree six = CHECKS.stands(typed("a/b" + all), 1);
        CHECKS.same("the first", Mail.parameterName(six, 0, 0) + Mail.parameterValue(six, 0, 0), "a1");
        CHECKS.same("the sixth", Mail.parameterName(six, 0, 5) + Mail.parameterValue(six, 0, 5), "f6");
        CHECKS.faultAtMark(typed("a/b" + all + " ↑;g=7"));
        CHECKS.faultAtMark(typed("a/b" + all + "↑;a=7"));
        CHECKS.faultAtMark(typed("a/b" + all + "↑;"));
        CHECKS.faultAtMark(typed("multipart/b" + all + "↑;boundary=x"));
        CHECKS.stands(typed("multipart/b;a=1;b=2;c=3;d=4;e=5;boundary=x") + BODY, 2);
    }

    private static void wrongParameters() {
        CHECKS.asked("a FAULT is the first byte that cannot stand");
        CHECKS.faultAtMark(typed("a/b;↑"));
        CHECKS.faultAtMark(typed("a/b;↑;"));
        CHECKS.faultAtMark(typed("a/b;a↑"));
        CHECKS.faultAtMark(typed("a/b;a↑;"));
        CHECKS.faultAtMark(typed("a/b;↑=1"));
        CHECKS.faultAtMark(typed("a/b;↑\"a\"=1"));
        CHECKS.faultAtMark(typed("a/b;a=↑"));
        CHECKS.faultAtMark(typed("a/b;a=↑/"));
        CHECKS.faultAtMark(typed("a/b;a=↑;b=c"));
        CHECKS.faultAtMark(typed("a/b;a=1 ↑2"));
        CHECKS.faultAtMark(typed("a/b;a=1↑\"2\""));
        CHECKS.faultAtMark(typed("a/b;a=1;↑"));
        CHECKS.faultAtMark(typed("a/b;a=\"x\" ↑\"y\""));
        CHECKS.faultAtMark(typed("a/b;a=\"x\"↑y"));
    }

    private static void sizesOfValues() {
        CHECKS.asked("100 bytes at most, as they are meant: a 101st cannot stand, at its place or at the \\\\ before it");
        String hundred = "v".repeat(100);
        MessageTree tree = CHECKS.stands(typed("a/b;a=\"" + hundred + "\";b=\"" + hundred.substring(1) + "\""), 1);
        CHECKS.same("a value of 100 bytes", tree.parameter(0, 0, 1, -1), 100);
        CHECKS.same("a value of 99 bytes", tree.parameter(0, 1, 1, -1), 99);
        CHECKS.faultAtMark(typed("a/b;a=\"" + hundred + "↑v\""));
        CHECKS.faultAtMark(typed("a/b;a=\"" + hundred + "↑ \""));
        CHECKS.faultAtMark(typed("a/b;a=\"" + hundred + "↑\\v\""));
        CHECKS.faultAtMark(typed("a/b;a=\"" + hundred + "↑\\\"\""));
        CHECKS.faultAtMark(typed("a/b;a=\"" + hundred + "↑\\"));
        CHECKS.faultAtMark(typed("a/b;a=\"" + hundred + "↑"));
        CHECKS.faultAtMark(typed("a/b;a=\"" + hundred + "\r\n↑ v\""));
        CHECKS.faultAtMark(typed("a/b;a=\"" + hundred.substring(1) + "\r\n ↑v\""));
        String escaped = "\\v".repeat(100);
        CHECKS.same("100 behind \\", CHECKS.stands(typed("a/b;a=\"" + escaped + "\""), 1).parameter(0, 0, 1, -1), 100);
        CHECKS.faultAtMark(typed("a/b;a=\"" + escaped + "↑\\v\""));
        CHECKS.faultAtMark(typed("a/b;a=\"" + escaped + "↑v\""));
        CHECKS.stands(typed("a/b;a=\"" + hundred.substring(1) + "\\\"\""), 1);
    }

    private static void namesTwice() {
        CHECKS.asked("A name of a parameter twice cannot stand at its first byte.");
        CHECKS.faultAtMark(typed("a/b;abc=1; ↑abc=1"));
        CHECKS.faultAtMark(typed("a/b;abc=1;x=2; (c) ↑ABC=1"));
        CHECKS.faultAtMark(typed("a/b;x=2;abc=1;↑abc"));
        CHECKS.faultAtMark(typed("a/b;abc=1;↑abc?"));
        CHECKS.faultAtMark(typed("a/b;a=1;b=2;c=3;d=4;e=5;↑a=6"));
        CHECKS.faultAtMark(typed("a/b;a=1;b=2;c=3;d=4;e=5;↑e=6"));
        CHECKS.faultAtMark(typed("multipart/b;boundary=x;↑Boundary=y"));
        CHECKS.stands(typed("a/b;abc=1;abcd=1;ab=1;bc=1"), 1);
        // These differ by 32, as small and great letters do, but are none.
        CHECKS.stands(typed("a/b;^=1;~=2"), 1);
        CHECKS.stands(typed("a/b;a=1;b=a;c=b"), 1);
        CHECKS.stands("content-type: multipart/x;boundary=x;a=1\r\n\r\n--x\r\ncontent-type: a/b;a=1\r\n\r\n\r\n--x--", 2);
    }

    private static void boundaryNeeded() {
        CHECKS.asked("If the first TOKEN is multipart, there has to be a parameter boundary");
        CHECKS.faultAtMark(typed(" ↑multipart/a"));
        CHECKS.faultAtMark(typed(" (c) ↑MultiparT/a;x=boundary"));
        CHECKS.faultAtMark(typed("\r\n ↑multipart/a;boundaries=x;bound=x"));
        CHECKS.faultAtMark("content-type: multipart/a;boundary=x\r\n\r\n--x\r\ncontent-type: ↑multipart/a\r\n\r\n\r\n--x--");
        CHECKS.stands(typed("MULTIPART/a;BOUNDARY=x") + BODY, 2);
        CHECKS.stands(typed("multipart/a;a=y;boundary=x;b=z") + BODY, 2);
        CHECKS.stands(typed("text/multipart"), 1);
        CHECKS.stands(typed("multiparts/a"), 1);
        CHECKS.stands(typed("multipar/a"), 1);
        CHECKS.stands(typed("text/a;boundary=*"), 1);
        CHECKS.stands(typed("text/a;boundary=\"\""), 1);
        CHECKS.same("a boundary makes no multipart", CHECKS.stands(typed("text/a;boundary=x") + BODY, 1).entity(0, 6), 0);
    }

    private static void bytesOfBoundaries() {
        CHECKS.asked("letters, digits, blank (32), ' ( ) + _ , - . / : = ? , the last one no blank");
        for (char c : Mail.BYTES) {
            if (Mail.inField(c)) {
                boolean right = Mail.isIn(Mail.LETTERS_DIGITS + " '()+_,-./:=?", c);
                boundaryIs("x" + c + "y", right);
                boundaryIs(c + "x", right);
                boundaryIs("x" + c, right && c != ' ');
                boundaryIs("" + c, right && c != ' ');
            }
        }
    }

    private static void boundaryIs(String boundary, boolean right) {
        String value = boundary.replace("\\", "\\\\").replace("\"", "\\\"");
        String head = "content-type:↑multipart/a;boundary=\"" + value + "\"\r\n\r\n";
        String message = head + "--" + boundary + "\r\n\r\n\r\n--" + boundary + "--";
        if (right) {
            CHECKS.stands(Mail.withoutMark(message), 2);
        } else {
            CHECKS.faultAtMark(message);
        }
    }

    private static void sizesOfBoundaries() {
        CHECKS.asked("1 .. 70 bytes of letters, digits, blank (32), ' ( ) + _ , - . / : = ? , the last one no blank");
        boundaryIs("", false);
        boundaryIs("b", true);
        boundaryIs("b".repeat(69), true);
        boundaryIs("b".repeat(70), true);
        boundaryIs("b".repeat(71), false);
        boundaryIs("b".repeat(100), false);
        boundaryIs("b".repeat(69) + " ", false);
        boundaryIs(" ".repeat(69) + "b", true);
        boundaryIs("b  ", false);
        boundaryIs(" ", false);
    }

    private static void boundaryBehindAllBytes() {
        CHECKS.asked("else (when all bytes could stand) a FAULT at the first TOKEN.");
        CHECKS.faultAtMark(typed("multipart/a;boundary=* ↑x"));
        CHECKS.faultAtMark(typed("multipart/a;x=y ↑z"));
        CHECKS.faultAtMark(typed("multipart/a(↑"));
        CHECKS.faultAtMark(typed("multipart/a;↑"));
        CHECKS.faultAtMark("content-type: ↑multipart/a\r\ndate: x\r\n\r\n");
        CHECKS.faultAtMark("date: ↑x\r\ncontent-type: multipart/a\r\n\r\n");
        CHECKS.faultAtMark("content-type: ↑multipart/a\r\ncontent-transfer-encoding: base64\r\n\r\n");
    }

    private static void codes() {
        CHECKS.asked("2: TOKEN: 7bit 8bit binary base64 quoted-printable, else a FAULT at it.");
        String[] names = {"7bit", "8bit", "binary", "base64", "quoted-printable"};
        for (int code = 0; code < names.length; code++) {
            String field = "content-transfer-encoding: (c) ";
            CHECKS.same("code " + names[code], CHECKS.stands(field + names[code] + " (c)\r\n\r\n", 1).entity(0, 4), code);
            String great = names[code].toUpperCase();
            CHECKS.same("code " + great, CHECKS.stands(field + great + "\r\n\r\n", 1).entity(0, 4), code);
            CHECKS.faultAtMark(field + "↑" + names[code] + "s\r\n\r\n");
            CHECKS.faultAtMark(field + "↑x" + names[code] + "\r\n\r\n");
            CHECKS.faultAtMark(field + "↑" + names[code].substring(1) + "\r\n\r\n");
            CHECKS.faultAtMark(field + "↑" + names[code].substring(0, names[code].length() - 1) + "\r\n\r\n");
            CHECKS.faultAtMark(field + names[code] + " ↑x\r\n\r\n");
            CHECKS.faultAtMark(field + names[code] + "↑;\r\n\r\n");
            CHECKS.faultAtMark(field + names[code] + "↑/b\r\n\r\n");
        }
        CHECKS.faultAtMark("content-transfer-encoding: ↑bit x\r\n\r\n");
        CHECKS.faultAtMark("content-transfer-encoding: ↑bit (\r\n\r\n");
        CHECKS.faultAtMark("content-transfer-encoding:↑\r\n\r\n");
        CHECKS.faultAtMark("content-transfer-encoding: ↑\"7bit\"\r\n\r\n");
        CHECKS.faultAtMark("content-transfer-encoding: ↑x\r\ndate: y\r\n\r\n");
    }

    private static void codesOfMultiparts() {
        CHECKS.asked("Behind all texts: in a multipart only the first three, else a FAULT at that TOKEN.");
        String multipart = "content-type: multipart/a;boundary=x\r\n";
        String[] firstThree = {"7bit", "8bit", "binary"};
        for (int code = 0; code < 3; code++) {
            String field = "content-transfer-encoding: " + firstThree[code] + "\r\n";
            CHECKS.same("code", CHECKS.stands(multipart + field + "\r\n" + BODY, 2).entity(0, 4), code);
            CHECKS.same("code", CHECKS.stands(field + multipart + "\r\n" + BODY, 2).entity(0, 4), code);
        }
        for (String code : new String[] {"base64", "Quoted-Printable"}) {
            String field = "content-transfer-encoding: (c)↑" + code + " (c)\r\n";
            CHECKS.faultAtMark(multipart + field + "\r\n" + BODY);
            CHECKS.faultAtMark(field + multipart + "\r\n" + BODY);
            CHECKS.faultAtMark(multipart + field + "\r\nno delimiter");
            CHECKS.faultAtMark(multipart + "\r\n--x\r\n" + field + multipart + "\r\n\r\n--x--");
            CHECKS.faultAtMark(Mail.withoutMark(field) + multipart + "date: ↑x\r\n\r\n" + BODY);
            CHECKS.faultAtMark(multipart + Mail.withoutMark(field) + "to: ↑;\r\n\r\n" + BODY);
            CHECKS.stands(multipart + "\r\n--x\r\n" + Mail.withoutMark(field) + "\r\n\r\n--x--", 2);
        }
    }

    private static void withoutFields() {
        CHECKS.asked("Without a field 1 the type is text, plain; without a field 2 7bit.");
        MessageTree tree = CHECKS.stands(typed("multipart/a;boundary=x") + BODY, 2);
        CHECKS.same("type of a part", Mail.typeOf(tree, 1), "text/plain");
        CHECKS.same("code of a multipart", tree.entity(0, 4), 0);
        CHECKS.same("code of a part", tree.entity(1, 4), 0);
        MessageTree none = CHECKS.stands("\r\n", 1);
        CHECKS.same("type of a message", Mail.typeOf(none, 0), "text/plain");
        CHECKS.same("its parameters", none.entity(0, 5), 0);
        CHECKS.same("code of a message", none.entity(0, 4), 0);
        CHECKS.faultAtMark("\r\n↑\u0080");
    }

    private static void typeAnswers() {
        CHECKS.asked("Of the type of entity i: which = 0 the first, 1 the second TOKEN: byte k; k = NONE: how many.");
        MessageTree tree = CHECKS.stands(typed("ab/cde;x=yz"), 1);
        CHECKS.same("the first's size", tree.type(0, 0, -1), 2);
        CHECKS.same("the first's first", tree.type(0, 0, 0), 'a');
        CHECKS.same("the first's last", tree.type(0, 0, 1), 'b');
        CHECKS.same("the second's size", tree.type(0, 1, -1), 3);
        CHECKS.same("the second's last", tree.type(0, 1, 2), 'e');
        CHECKS.asked("byte k; k = NONE: how many. IndexOutOfBoundsException.");
        CHECKS.outside("entity 1 of 1", () -> tree.type(1, 0, -1));
        CHECKS.outside("entity -1", () -> tree.type(-1, 0, -1));
        CHECKS.outside("which 2", () -> tree.type(0, 2, -1));
        CHECKS.outside("which -1", () -> tree.type(0, -1, -1));
        CHECKS.outside("byte 2 of 2", () -> tree.type(0, 0, 2));
        CHECKS.outside("byte 3 of 3", () -> tree.type(0, 1, 3));
        for (int n : Mail.NO_PLACES) {
            CHECKS.outside("entity " + n, () -> tree.type(n, 0, -1));
            CHECKS.outside("which " + n, () -> tree.type(0, n, -1));
            CHECKS.outside("byte " + n, () -> tree.type(0, 0, n));
        }
    }

    private static void parameterAnswers() {
        CHECKS.asked("which = 0 its name, 1 its VALUE, as it is meant: byte k; k = NONE: how many.");
        MessageTree tree = CHECKS.stands(typed("ab/cde;x=yz;v=\"\""), 1);
        CHECKS.same("the name's size", tree.parameter(0, 0, 0, -1), 1);
        CHECKS.same("the name's first", tree.parameter(0, 0, 0, 0), 'x');
        CHECKS.same("the value's size", tree.parameter(0, 0, 1, -1), 2);
        CHECKS.same("the value's last", tree.parameter(0, 0, 1, 1), 'z');
        CHECKS.same("no value's size", tree.parameter(0, 1, 1, -1), 0);
        CHECKS.asked("1 its VALUE, as it is meant: byte k; k = NONE: how many. IndexOutOfBoundsException.");
        CHECKS.outside("no value's first", () -> tree.parameter(0, 1, 1, 0));
        CHECKS.outside("byte 1 of 1", () -> tree.parameter(0, 0, 0, 1));
        CHECKS.outside("byte 2 of 2", () -> tree.parameter(0, 0, 1, 2));
        CHECKS.outside("parameter 2 of 2", () -> tree.parameter(0, 2, 0, -1));
        CHECKS.outside("parameter -1", () -> tree.parameter(0, -1, 0, -1));
        CHECKS.outside("which 2", () -> tree.parameter(0, 0, 2, -1));
        CHECKS.outside("which -1", () -> tree.parameter(0, 1, -1, -1));
        CHECKS.outside("entity 1 of 1", () -> tree.parameter(1, 0, 0, -1));
        CHECKS.outside("entity -1", () -> tree.parameter(-1, 0, 0, -1));
        for (int n : Mail.NO_PLACES) {
            CHECKS.outside("entity " + n, () -> tree.parameter(n, 0, 0, -1));
            CHECKS.outside("parameter " + n, () -> tree.parameter(0, n, 0, -1));
            CHECKS.outside("which " + n, () -> tree.parameter(0, 0, n, -1));
            CHECKS.outside("byte " + n, () -> tree.parameter(0, 0, 1, n));
        }
        CHECKS.outside("parameter 0 of none", () -> CHECKS.stands("\r\n", 1).parameter(0, 0, 0, -1));
    }
}
