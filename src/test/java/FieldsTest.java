/** Promises 5, 8 and 9 as to fields: their names, texts, folds, kinds, and how many there may be. */
public final class FieldsTest {
    private static final Checks CHECKS = new Checks("FieldsTest");

    public static void main(String[] args) {
        namesAndTexts();
        wrongFields();
        kinds();
        secondOfAKind();
        fieldsTooMany();
        twoHundredFields();
        wrongPlaces();
        CHECKS.finish();
    }

    private static void namesAndTexts() {
        MessageTree tree = CHECKS.stands("X-One:two\r\n!~\";:\r\nf: \tg\r\n h\r\n\t\r\n  i \r\n\r\n: no field", 1);
        CHECKS.same("fields", tree.entity(0, 2), 3);
        CHECKS.same("name 0", Mail.fieldName(tree, 0, 0), "X-One");
        CHECKS.same("text 0", Mail.fieldText(tree, 0, 0), "two");
        CHECKS.same("kind 0", tree.kind(0, 0), 0);
        CHECKS.same("name 1", Mail.fieldName(tree, 0, 1), "!~\";");
        CHECKS.same("text 1", Mail.fieldText(tree, 0, 1), "");
        CHECKS.same("a folded text", Mail.fieldText(tree, 0, 2), " \tg h\t  i ");
        CHECKS.same("body", Mail.body(tree, 0), ": no field");
    }

    private static void wrongFields() {
        CHECKS.stands("!~\"(): \r\n\r\n", 1);
        CHECKS.faultAtMark("a: b\r\n↑:c\r\n\r\n");
        CHECKS.faultAtMark("↑ a: b\r\n\r\n");
        CHECKS.faultAtMark("↑\ta: b\r\n\r\n");
        CHECKS.faultAtMark("a↑ : b\r\n\r\n");
        CHECKS.faultAtMark("a↑\177: b\r\n\r\n");
        CHECKS.faultAtMark("a↑\u0080: b\r\n\r\n");
        CHECKS.faultAtMark("abc↑\r\n\r\n");
        CHECKS.faultAtMark("a: b↑\177\r\n\r\n");
        CHECKS.faultAtMark("a: b↑\0\r\n\r\n");
        CHECKS.faultAtMark("a: b\r\n c↑\u00ff\r\n\r\n");
        CHECKS.stands("a:\t ~\r\n\r\n", 1);
        String name = "n".repeat(40);
        CHECKS.stands(name + ":\r\n\r\n", 1);
        CHECKS.faultAtMark(name + "↑n:\r\n\r\n");
        CHECKS.faultAtMark(name + "↑ :\r\n\r\n");
        CHECKS.faultAtMark("↑");
        CHECKS.faultAtMark("abc↑");
        CHECKS.faultAtMark("abc:↑");
        CHECKS.faultAtMark("abc: d\r\n↑");
        CHECKS.faultAtMark("abc: d\r\n e\r\n↑");
        CHECKS.stands("abc: d\r\n e\r\n\r\n", 1);
        // The fields of the whole head are looked at before the texts are read.
        CHECKS.faultAtMark("date: none\r\nb↑ ad\r\n\r\n");
    }

    private static void kinds() {
        MessageTree tree = CHECKS.stands("Content-TYPE: multipart/mixed; boundary=b\r\nCONTENT-transfer-encoding: 8bit\r\n"
                + "SUBJECT: s\r\nDATE: 1 Jan 2000 00:00 +0000\r\nFROM: a@b\r\nTO: c@d\r\nto2: e\r\nt: f\r\n\r\n"
                + "--b\r\nsubject: s\r\ndate: d\r\nfrom: f\r\nto: t\r\nsubject: again\r\nContent-Type: a/b\r\n"
                + "content-transfer-encoding: 7bit\r\n\r\n\r\n--b--", 2);
        int[] message = {1, 2, 3, 4, 5, 6, 0, 0};
        for (int f = 0; f < message.length; f++) {
            CHECKS.same("kind of the message's field " + f, tree.kind(0, f), message[f]);
        }
        int[] part = {0, 0, 0, 0, 0, 1, 2};
        for (int f = 0; f < part.length; f++) {
            CHECKS.same("kind of the part's field " + f, tree.kind(1, f), part[f]);
        }
        CHECKS.same("name as it was", Mail.fieldName(tree, 0, 0), "Content-TYPE");
        CHECKS.same("fields of the part", tree.entity(1, 2), 7);
    }

    private static void secondOfAKind() {
        CHECKS.stands("a: b\r\na: b\r\n\r\n", 1);
        CHECKS.faultAtMark("subject: a\r\n↑Subject: b\r\n\r\n");
        CHECKS.faultAtMark("to: nothing right\r\n↑to: \u0001\r\n\r\n");
        CHECKS.faultAtMark("content-type: a/b\r\nx:\r\n↑content-type: a/b\r\n\r\n");
        CHECKS.faultAtMark("content-transfer-encoding: 7bit\r\n↑content-transfer-encoding: 7bit\r\n\r\n");
        CHECKS.faultAtMark("date: \r\n↑date: \r\n\r\n");
        CHECKS.faultAtMark("from: \r\n↑from: \r\n\r\n");
        CHECKS.faultAtMark("content-type: multipart/a; boundary=b\r\n\r\n--b\r\ncontent-type: a/b\r\n"
                + "↑content-type: a/b\r\n\r\n\r\n--b--");
    }

    private static void fieldsTooMany() {
        String twenty = "x: y\r\n".repeat(20);
        MessageTree tree = CHECKS.stands(twenty + " z\r\n\r\n", 1);
        CHECKS.same("fields", tree.entity(0, 2), 20);
        CHECKS.same("the last one's text", Mail.fieldText(tree, 0, 19), " y z");
        CHECKS.faultAtMark(twenty + "↑x: y\r\n\r\n");
        CHECKS.faultAtMark(twenty + "↑no field");
        CHECKS.faultAtMark(twenty + "↑");
    }

    private static void twoHundredFields() {
        StringBuilder text = new StringBuilder("content-type: multipart/a; boundary=b\r\n\r\n");
        for (int k = 0; k < 9; k++) {
            text.append("--b\r\n").append("x: y\r\n".repeat(20)).append("\r\n\r\n");
        }
        text.append("--b\r\n").append("x: y\r\n".repeat(19));
        MessageTree tree = CHECKS.stands(text + "\r\n\r\n--b--", 11);
        CHECKS.same("the last field", Mail.fieldName(tree, 10, 18) + Mail.fieldText(tree, 10, 18), "x y");
        CHECKS.faultAtMark(text + "↑x: y\r\n\r\n\r\n--b--");
    }

    private static void wrongPlaces() {
        MessageTree tree = CHECKS.stands("ab: cd\r\n\r\n", 1);
        CHECKS.same("letter 1 of the name", tree.letter(0, 0, 0, 1), 'b');
        CHECKS.same("letter 2 of the text", tree.letter(0, 0, 1, 2), 'd');
        CHECKS.same("letters of the name", tree.letter(0, 0, 0, -1), 2);
        CHECKS.same("letters of the text", tree.letter(0, 0, 1, -1), 3);
        CHECKS.outside("letter behind the name", () -> tree.letter(0, 0, 0, 2));
        CHECKS.outside("letter behind the text", () -> tree.letter(0, 0, 1, 3));
        CHECKS.outside("letter -2", () -> tree.letter(0, 0, 0, -2));
        CHECKS.outside("which 2", () -> tree.letter(0, 0, 2, -1));
        CHECKS.outside("which -1", () -> tree.letter(0, 0, -1, -1));
        CHECKS.outside("letter of field 1", () -> tree.letter(0, 1, 0, -1));
        CHECKS.outside("letter of field -1", () -> tree.letter(0, -1, 0, -1));
        CHECKS.outside("letter of entity 1", () -> tree.letter(1, 0, 0, -1));
        CHECKS.outside("letter of entity -1", () -> tree.letter(-1, 0, 0, -1));
        CHECKS.outside("letter of far away", () -> tree.letter(0, Integer.MAX_VALUE, 0, -1));
        CHECKS.outside("kind of field 1", () -> tree.kind(0, 1));
        CHECKS.outside("kind of field -1", () -> tree.kind(0, -1));
        CHECKS.outside("kind of entity 1", () -> tree.kind(1, 0));
        CHECKS.outside("kind of far away", () -> tree.kind(Integer.MIN_VALUE, Integer.MAX_VALUE));
    }
}
