/** Terms 2 as to entities, fields and kinds; promises 8 and 9. */
public final class FieldsTest {
    private static final Checks CHECKS = new Checks("FieldsTest");
    private static final String HEAD = "content-type: multipart/a; boundary=b\r\n\r\n";
    private static final String[] NAMES = {"content-type", "content-transfer-encoding", "subject", "date", "from", "to"};
    private static final String[] TEXTS = {"a/b", "7bit", "s", "1 Jan 2000 00:00 +0000", "a@b", "c@d"};

    public static void main(String[] args) {
        headAndBody();
        bytesOfNames();
        sizesOfNames();
        bytesOfTexts();
        folds();
        twentyFields();
        twoHundredFields();
        endsTooSoon();
        kinds();
        kindsOfParts();
        secondOfAKind();
        secondOfAKindInParts();
        kindRefused();
        letters();
        CHECKS.finish();
    }

    private static void headAndBody() {
        CHECKS.asked("It has FIELDS, an empty line (a line end alone), and a BODY, all behind that.");
        MessageTree tree = CHECKS.stands("X-One:two\r\n!~\";:\r\nf: \tg\r\n h\r\n\t\r\n  i \r\n\r\n: no field", 1);
        CHECKS.same("fields", tree.entity(0, 2), 3);
        CHECKS.same("name 0", Mail.fieldName(tree, 0, 0), "X-One");
        CHECKS.same("text 0", Mail.fieldText(tree, 0, 0), "two");
        CHECKS.same("kind 0", tree.kind(0, 0), 0);
        CHECKS.same("name 1", Mail.fieldName(tree, 0, 1), "!~\";");
        CHECKS.same("text 1", Mail.fieldText(tree, 0, 1), "");
        CHECKS.same("a folded text", Mail.fieldText(tree, 0, 2), " \tg h\t  i ");
        CHECKS.same("body", Mail.body(tree, 0), ": no field");
        MessageTree none = CHECKS.stands("\r\n", 1);
        CHECKS.same("no fields", none.entity(0, 2), 0);
        CHECKS.same("no body", none.entity(0, 3), 0);
        MessageTree lines = CHECKS.stands("\r\n\r\na: b\r\n\r\n", 1);
        CHECKS.same("no fields before the body", lines.entity(0, 2), 0);
        CHECKS.same("a body of lines", Mail.body(lines, 0), "\r\na: b\r\n\r\n");
        CHECKS.faultAtMark("↑ \r\n\r\n");
        CHECKS.stands("a:\r\n \r\n\t\r\n\r\n", 1);
    }

    private static void bytesOfNames() {
        CHECKS.asked("a NAME, 1 to 40 bytes 33 .. 126 but :, then :, and TEXT to the line's end");
        for (char c : Mail.BYTES) {
            boolean right = c >= 33 && c <= 126 && c != ':';
            CHECKS.standsOrFaults("↑" + c + ":b\r\n\r\n", right);
            CHECKS.standsOrFaults("x↑" + c + "y:b\r\n\r\n", right || c == ':');
            CHECKS.standsOrFaults("x: y\r\nz↑" + c + ":b\r\n\r\n", right || c == ':');
        }
        MessageTree tree = CHECKS.stands("x:y:z\r\n\r\n", 1);
        CHECKS.same("the name ends at the first :", Mail.fieldName(tree, 0, 0) + " " + Mail.fieldText(tree, 0, 0), "x y:z");
        CHECKS.faultAtMark("abc↑\r\n\r\n");
        CHECKS.faultAtMark("a: b\r\nabc↑\r\n\r\n");
    }

    private static void sizesOfNames() {
        CHECKS.asked("also a 41st one of a name");
        String forty = "n".repeat(40);
        CHECKS.faultAtMark("↑:b\r\n\r\n");
        CHECKS.stands("n:b\r\n\r\n", 1);
        MessageTree tree = CHECKS.stands(forty + ":\r\n" + forty.substring(1) + ":\r\n\r\n", 1);
        CHECKS.same("a name of 40 bytes", Mail.fieldName(tree, 0, 0), forty);
        CHECKS.same("a name of 39 bytes", tree.letter(0, 1, 0, -1), 39);
        CHECKS.faultAtMark(forty + "↑n:\r\n\r\n");
        CHECKS.faultAtMark(forty + "↑nnn:\r\n\r\n");
        CHECKS.faultAtMark(forty + "↑ :\r\n\r\n");
        CHECKS.faultAtMark(forty + "↑\r\n\r\n");
        CHECKS.faultAtMark(forty + "↑");
        CHECKS.faultAtMark("a: b\r\n" + forty + "↑n:\r\n\r\n");
        CHECKS.faultAtMark(HEAD + "--b\r\n" + forty + "↑n:\r\n\r\n\r\n--b--");
    }

    private static void bytesOfTexts() {
        CHECKS.asked("All bytes of fields are 32 .. 126, or 9.");
        for (char c : Mail.BYTES) {
            CHECKS.standsOrFaults("x:↑" + c + "\r\n\r\n", Mail.inField(c));
            CHECKS.standsOrFaults("x: y\r\n z↑" + c + "\r\n\r\n", Mail.inField(c));
            CHECKS.standsOrFaults("subject: y↑" + c + "\r\n\r\n", Mail.inField(c));
        }
        CHECKS.faultAtMark("x: ↑\0\r\ny: \1\r\n\r\n");
        CHECKS.faultAtMark("date: none\r\nx: ↑\0\r\n\r\n");
    }

    private static void folds() {
        CHECKS.asked("lines that begin with a blank go on with it (their line ends are no part of the TEXT, their blanks are)");
        MessageTree tree = CHECKS.stands("a:b\r\n c\r\n\td\r\n \r\n \t e \r\nf:\r\n g\r\nh:i\r\n\r\n j", 1);
        CHECKS.same("fields", tree.entity(0, 2), 3);
        CHECKS.same("a text of five lines", Mail.fieldText(tree, 0, 0), "b c\td  \t e ");
        CHECKS.same("a text that begins with a fold", Mail.fieldText(tree, 0, 1), " g");
        CHECKS.same("a text of one line", Mail.fieldText(tree, 0, 2), "i");
        CHECKS.same("no fold behind the empty line", Mail.body(tree, 0), " j");
        CHECKS.faultAtMark("↑\ta: b\r\n\r\n");
        CHECKS.faultAtMark("↑ a: b\r\n\r\n");
        CHECKS.faultAtMark(HEAD + "--b\r\n↑ a: b\r\n\r\n\r\n--b--");
    }

    private static void twentyFields() {
        CHECKS.asked("At most 20 fields an entity, 200 in all.");
        String nineteen = "x: y\r\n".repeat(19);
        MessageTree tree = CHECKS.stands(nineteen + "x: y\r\n z\r\n\r\n", 1);
        CHECKS.same("fields", tree.entity(0, 2), 20);
        CHECKS.same("the last one's text", Mail.fieldText(tree, 0, 19), " y z");
        CHECKS.stands(nineteen + "content-type: a/b\r\n\r\n", 1);
        CHECKS.asked("the first byte of a field too many");
        CHECKS.faultAtMark(nineteen + "x: y\r\n↑x: y\r\n\r\n");
        CHECKS.faultAtMark(nineteen + "content-type: a/b\r\n↑x: y\r\n\r\n");
        CHECKS.faultAtMark(nineteen + "x: y\r\n↑content-type: a/b\r\n\r\n");
        CHECKS.faultAtMark(nineteen + "x: y\r\n z\r\n↑x: y\r\n\r\n");
        CHECKS.faultAtMark(nineteen + "x: y\r\n↑no field");
        CHECKS.faultAtMark(nineteen + "x: y\r\n↑x: \0\r\n\r\n");
        CHECKS.faultAtMark(nineteen + "x: y\r\n↑");
        CHECKS.faultAtMark(nineteen + "date: wrong\r\n↑x: y\r\n\r\n");
        CHECKS.stands(HEAD + "--b\r\n" + nineteen + "x: y\r\n\r\n\r\n--b--", 2);
        CHECKS.faultAtMark(HEAD + "--b\r\n" + nineteen + "x: y\r\n↑x: y\r\n\r\n\r\n--b--");
    }

    private static void twoHundredFields() {
        CHECKS.asked("At most 20 fields an entity, 200 in all.");
        String nine = HEAD + ("--b\r\n" + "x: y\r\n".repeat(20) + "\r\n\r\n").repeat(9);
        String most = nine + "--b\r\n" + "x: y\r\n".repeat(18) + "q: r\r\n";
        MessageTree tree = CHECKS.stands(most + "\r\n\r\n--b--", 11);
        CHECKS.same("the last field", Mail.fieldName(tree, 10, 18) + Mail.fieldText(tree, 10, 18), "q r");
        CHECKS.same("the first field", Mail.fieldName(tree, 0, 0), "content-type");
        CHECKS.faultAtMark(most + "↑x: y\r\n\r\n\r\n--b--");
        CHECKS.faultAtMark(most + "↑x: \0\r\n\r\n\r\n--b--");
        CHECKS.stands(most + "\r\n\r\n--b\r\n\r\nno field\r\n--b--", 12);
        CHECKS.faultAtMark(most + "\r\n\r\n--b\r\n↑x: y\r\n\r\n\r\n--b--");
        String hundredNinetyNine = nine + "--b\r\n" + "x: y\r\n".repeat(18);
        CHECKS.stands(hundredNinetyNine + "\r\n\r\n--b\r\nx: y\r\n\r\n\r\n--b--", 12);
        CHECKS.faultAtMark(hundredNinetyNine + "\r\n\r\n--b\r\nx: y\r\n↑x: y\r\n\r\n\r\n--b--");
    }

    private static void endsTooSoon() {
        CHECKS.asked("b, when the entity ends before its empty line is whole");
        String head = "ab: c\r\n d\r\ne:\r\n\r\n";
        for (int n = 0; n < head.length(); n++) {
            String cut = head.substring(0, n);
            // A 13 without its 10 is a fault of the tape itself.
            String marked = cut.endsWith("\r") ? head.substring(0, n - 1) + "↑\r" : cut + "↑";
            CHECKS.faultAtMark(marked);
            CHECKS.faultAtMark(HEAD + "--b\r\n" + marked + "\r\n--b--");
            CHECKS.faultAtMark(HEAD + "--b\r\n\r\n\r\n--b \r\n" + marked + "\r\n--b\r\n\r\n\r\n--b--");
        }
        CHECKS.stands(head, 1);
        CHECKS.stands(HEAD + "--b\r\n" + head + "\r\n--b--", 2);
        CHECKS.faultAtMark("date: none\r\n↑");
    }

    private static void kinds() {
        CHECKS.asked("KINDS of fields by their names: 1 content-type, 2 content-transfer-encoding, "
                + "and in the message alone 3 subject, 4 date, 5 from, 6 to; 0 all others.");
        for (int kind = 1; kind <= 6; kind++) {
            String name = NAMES[kind - 1];
            String rest = ": " + TEXTS[kind - 1] + "\r\n\r\n";
            String mixed = Character.toUpperCase(name.charAt(0)) + name.substring(1);
            CHECKS.same("kind of " + name, CHECKS.stands(name + rest, 1).kind(0, 0), kind);
            CHECKS.same("kind of " + mixed, CHECKS.stands(mixed + rest, 1).kind(0, 0), kind);
            MessageTree great = CHECKS.stands(name.toUpperCase() + rest, 1);
            CHECKS.same("kind of a great " + name, great.kind(0, 0), kind);
            CHECKS.same("its name is as it was", Mail.fieldName(great, 0, 0), name.toUpperCase());
            CHECKS.same("kind of " + name + "s", CHECKS.stands(name + "s" + rest, 1).kind(0, 0), 0);
            CHECKS.same("kind of x" + name, CHECKS.stands("x" + name + rest, 1).kind(0, 0), 0);
            String shorter = name.substring(0, name.length() - 1);
            CHECKS.same("kind of " + shorter, CHECKS.stands(shorter + rest, 1).kind(0, 0), 0);
        }
        CHECKS.same("kind of content_type", CHECKS.stands("content_type: x\r\n\r\n", 1).kind(0, 0), 0);
    }

    private static void kindsOfParts() {
        CHECKS.asked("and in the message alone 3 subject, 4 date, 5 from, 6 to; 0 all others.");
        MessageTree tree = CHECKS.stands("Content-TYPE: multipart/mixed; boundary=b\r\nCONTENT-transfer-encoding: 8bit\r\n"
                + "SUBJECT: s\r\nDATE: 1 Jan 2000 00:00 +0000\r\nFROM: a@b\r\nTO: c@d\r\nto2: e\r\nt: f\r\n\r\n"
                + "--b\r\nsubject: s\r\ndate: d\r\nfrom: f\r\nto: t\r\nsubject: again\r\nContent-Type: a/b\r\n"
                + "content-transfer-encoding: 7bit\r\n\r\n\r\n--b--", 2);
        int[] message = {1, 2, 3, 4, 5, 6, 0, 0};
        for (int f = 0; f < message.length; f++) {
            CHECKS.same("kind of the message's field " + f, tree.kind(0, f), message[f]);
        }
        int[] part = {0, 0, 0, 0, 0, 1, 2};
        for (int f = 0; f < part.length; f++) {
            CHECKS.same("kind of the part's field " + f, tree.kind(1, f), part[f]);
        }
        CHECKS.same("the message's subject", Mail.subjectOf(tree), "s");
        CHECKS.same("fields of the part", tree.entity(1, 2), 7);
    }

    private static void secondOfAKind() {
        CHECKS.asked("A second one of a kind above 0 is a FAULT at its first byte (before its own bytes are looked at).");
        CHECKS.stands("a: b\r\na: b\r\n\r\n", 1);
        for (int kind = 1; kind <= 6; kind++) {
            String name = NAMES[kind - 1];
            String field = name + ": " + TEXTS[kind - 1] + "\r\n";
            CHECKS.faultAtMark(field + "↑" + field + "\r\n");
            CHECKS.faultAtMark(field + "x:\r\n↑" + field.toUpperCase() + "\r\n");
            CHECKS.faultAtMark(field + "↑" + name + ": \0\r\n\r\n");
            CHECKS.faultAtMark(field + "↑" + name + ":");
            CHECKS.faultAtMark(name + ": nothing right;\r\n↑" + field + "\r\n");
            // Without its colon it is no field yet.
            CHECKS.faultAtMark(field + name + "↑ : x\r\n\r\n");
            CHECKS.faultAtMark(field + name + "↑\r\n\r\n");
            CHECKS.stands(field + name + "s: x\r\n\r\n", 1);
        }
        CHECKS.faultAtMark("to: a@b\r\n↑to: c@d\r\nno field\r\n\r\n");
    }

    private static void secondOfAKindInParts() {
        CHECKS.asked("A second one of a kind above 0 is a FAULT at its first byte (before its own bytes are looked at).");
        for (int kind = 1; kind <= 6; kind++) {
            String field = NAMES[kind - 1] + ": " + TEXTS[kind - 1] + "\r\n";
            if (kind <= 2) {
                CHECKS.faultAtMark(HEAD + "--b\r\n" + field + "↑" + field + "\r\n\r\n--b--");
            } else {
                CHECKS.stands(HEAD + "--b\r\n" + field + field + "\r\n\r\n--b--", 2);
            }
            CHECKS.stands(HEAD + ("--b\r\n" + field + "\r\n\r\n").repeat(2) + "--b--", 3);
        }
    }

    private static void kindRefused() {
        CHECKS.asked("Of field f of entity i: its kind. IndexOutOfBoundsException: there is no such entity, or field.");
        MessageTree tree = CHECKS.stands(HEAD + "--b\r\nto: c\r\n\r\n\r\n--b\r\n\r\n\r\n--b--", 3);
        CHECKS.same("kind of the message's field", tree.kind(0, 0), 1);
        CHECKS.same("kind of the part's field", tree.kind(1, 0), 0);
        CHECKS.outside("field 1 of 1", () -> tree.kind(0, 1));
        CHECKS.outside("field -1", () -> tree.kind(0, -1));
        CHECKS.outside("field -1 of the part", () -> tree.kind(1, -1));
        CHECKS.outside("field 0 of none", () -> tree.kind(2, 0));
        CHECKS.outside("entity 3 of 3", () -> tree.kind(3, 0));
        CHECKS.outside("entity -1", () -> tree.kind(-1, 0));
        for (int n : Mail.NO_PLACES) {
            CHECKS.outside("kind of field " + n, () -> tree.kind(0, n));
            CHECKS.outside("kind of entity " + n, () -> tree.kind(n, 0));
        }
    }

    private static void letters() {
        CHECKS.asked("which = 0 its NAME, 1 its TEXT (without its line ends): byte k of it; k = NONE: how many it has.");
        MessageTree tree = CHECKS.stands("ab: cd\r\n\te\r\nx:\r\n\r\n", 1);
        CHECKS.same("letter 0 of the name", tree.letter(0, 0, 0, 0), 'a');
        CHECKS.same("letter 1 of the name", tree.letter(0, 0, 0, 1), 'b');
        CHECKS.same("letter 0 of the text", tree.letter(0, 0, 1, 0), ' ');
        CHECKS.same("letter 4 of the text", tree.letter(0, 0, 1, 4), 'e');
        CHECKS.same("letters of the name", tree.letter(0, 0, 0, -1), 2);
        CHECKS.same("letters of the text", tree.letter(0, 0, 1, -1), 5);
        CHECKS.same("letters of no text", tree.letter(0, 1, 1, -1), 0);
        CHECKS.asked("IndexOutOfBoundsException: there is no such entity, field, which, or byte.");
        CHECKS.outside("letter behind the name", () -> tree.letter(0, 0, 0, 2));
        CHECKS.outside("letter behind the text", () -> tree.letter(0, 0, 1, 5));
        CHECKS.outside("letter 0 of no text", () -> tree.letter(0, 1, 1, 0));
        CHECKS.outside("which 2", () -> tree.letter(0, 0, 2, -1));
        CHECKS.outside("which -1", () -> tree.letter(0, 1, -1, -1));
        CHECKS.outside("field 2 of 2", () -> tree.letter(0, 2, 0, -1));
        CHECKS.outside("field -1", () -> tree.letter(0, -1, 0, -1));
        CHECKS.outside("entity 1 of 1", () -> tree.letter(1, 0, 0, -1));
        CHECKS.outside("entity -1", () -> tree.letter(-1, 0, 0, -1));
        for (int n : Mail.NO_PLACES) {
            CHECKS.outside("letter of entity " + n, () -> tree.letter(n, 0, 0, -1));
            CHECKS.outside("letter of field " + n, () -> tree.letter(0, n, 0, -1));
            CHECKS.outside("letter which " + n, () -> tree.letter(0, 0, n, -1));
            CHECKS.outside("letter " + n, () -> tree.letter(0, 0, 1, n));
        }
    }
}
