/** Terms 2 as to all texts that are read: their order, where they end, and SPACE with its comments. */
public final class TextsTest {
    private static final Checks CHECKS = new Checks("TextsTest");
    private static final String[] NAMES = {"content-type", "content-transfer-encoding", "date", "from", "to"};
    /** A right text of each, with a ~ wherever SPACE may stand. */
    private static final String[] SPACED = {"~a~/~b~;~c~=~d~;~e~=~\"f\"~", "~7bit~",
        "~Thu~,~1~Jan~1970~00~:~00~:~00~+0000~", "~a~<~b~@~c~>~,~d~@~e~,~\"f\"~\"g\"~<~\"h\"~@~i.j~>~", "~a.b~@~c~"};

    public static void main(String[] args) {
        allFieldsFirst();
        fieldByField();
        otherTextsAreFree();
        endTooSoon();
        spaceAnywhere();
        spaceIsBlanksAndComments();
        commentsWithinComments();
        backslashInComments();
        openComments();
        blanks();
        smallAndGreat();
        CHECKS.finish();
    }

    private static void allFieldsFirst() {
        CHECKS.asked("Behind the empty line the TEXTS of kinds 1, 2, 4, 5, 6 are read, field by field");
        for (String name : NAMES) {
            CHECKS.faultAtMark(name + ": ;\r\nb↑ ad\r\n\r\n");
            CHECKS.faultAtMark(name + ": ;\r\nb: ↑\0\r\n\r\n");
            CHECKS.faultAtMark(name + ": ;\r\nb: c\r\n↑");
            CHECKS.faultAtMark(name + ": ↑;\r\nb: c\r\n\r\n\0");
        }
    }

    private static void fieldByField() {
        CHECKS.asked("Behind the empty line the TEXTS of kinds 1, 2, 4, 5, 6 are read, field by field");
        for (String one : NAMES) {
            for (String other : NAMES) {
                if (!one.equals(other)) {
                    CHECKS.faultAtMark("x: y\r\n" + one + ": ↑;\r\nsubject: z\r\n" + other + ": ;\r\n\r\n");
                }
            }
        }
        CHECKS.faultAtMark("from: a@b\r\ndate: 1 Jan 2000 00:00 +0000\r\ncontent-type: a/b\r\nto: c@d ↑;\r\n\r\n");
    }

    private static void otherTextsAreFree() {
        CHECKS.asked("Behind the empty line the TEXTS of kinds 1, 2, 4, 5, 6 are read, field by field");
        for (String text : new String[] {"", ";", "(", ")", "\"", "\\", "=?utf-8?q?=", "<", "((((((((((((", "\t"}) {
            CHECKS.stands("x:" + text + "\r\nsubject:" + text + "\r\ndates:" + text + "\r\n\r\n", 1);
            CHECKS.stands("content-type: multipart/x; boundary=b\r\n\r\n--b\r\nfrom:" + text + "\r\nto:" + text
                    + "\r\ndate:" + text + "\r\n\r\n\r\n--b--", 2);
        }
    }

    private static void endTooSoon() {
        CHECKS.asked("when the text ends too soon, the place behind it: of the line end that ends the field");
        String[] begun = {"a/b;c=", "", "1 Jan 1970 00:00", "a <b@c", "a@"};
        for (int k = 0; k < NAMES.length; k++) {
            CHECKS.faultAtMark(NAMES[k] + ":↑\r\n\r\n");
            CHECKS.faultAtMark(NAMES[k] + ":" + begun[k] + "↑\r\n\r\n");
            CHECKS.faultAtMark(NAMES[k] + ":" + begun[k] + " \t (x) ↑\r\nx: y\r\n\r\n");
            CHECKS.faultAtMark(NAMES[k] + ":\r\n " + begun[k] + "\r\n \r\n\t↑\r\n\r\nbody");
            CHECKS.faultAtMark(NAMES[k] + ":" + begun[k] + "\r\n (x)\r\n ↑\r\nx:\r\n y\r\n\r\n");
        }
        CHECKS.asked("places of the tape");
        CHECKS.faultAtMark("content-type:\r\n \r\n a/b\r\n ↑?\r\n\r\n");
        CHECKS.faultAtMark("content-type: a/\r\n\t↑?\r\n\r\n");
        CHECKS.faultAtMark("x: y\r\n z\r\ncontent-type: a\r\n /\r\n b\r\n ↑/\r\n\r\n");
    }

    private static void spaceAnywhere() {
        CHECKS.asked("In them, between any two things (but where told), before and behind all, may stand SPACE");
        String[] spaces = {"", " ", "\t", "()", "(c)", " \t(c) (d)\t", "\r\n ", "(c\r\n d)\r\n\t"};
        for (int k = 0; k < NAMES.length; k++) {
            for (String space : spaces) {
                CHECKS.stands(NAMES[k] + ":" + SPACED[k].replace("~", space) + "\r\n\r\n", 1);
            }
            for (int at = SPACED[k].indexOf('~'); at >= 0; at = SPACED[k].indexOf('~', at + 1)) {
                String before = SPACED[k].substring(0, at).replace("~", "");
                String behind = SPACED[k].substring(at + 1).replace("~", "");
                CHECKS.stands(NAMES[k] + ":" + before + " (c)" + behind + "\r\n\r\n", 1);
            }
        }
        wordsAreNotCut();
    }

    private static void wordsAreNotCut() {
        CHECKS.faultAtMark("content-type: te ↑xt/plain\r\n\r\n");
        CHECKS.faultAtMark("content-type: te(c)↑xt/plain\r\n\r\n");
        CHECKS.faultAtMark("content-type: text/pl\r\n ↑ain\r\n\r\n");
        CHECKS.faultAtMark("content-transfer-encoding: 7bit ↑s\r\n\r\n");
        CHECKS.faultAtMark("content-transfer-encoding: ↑7 bit\r\n\r\n");
        CHECKS.faultAtMark("from: a@b ↑c\r\n\r\n");
    }

    private static void spaceIsBlanksAndComments() {
        CHECKS.asked("any number of blanks and COMMENTS: ( any bytes )");
        CHECKS.stands("to:" + " \t".repeat(400) + "a" + "(c)".repeat(60) + "@b\r\n\r\n", 1);
        CHECKS.stands("to:" + ("\r\n " + "()".repeat(490)).repeat(8) + "a@b\r\n\r\n", 1);
        for (char c : Mail.BYTES) {
            if (c != '(' && c != ')' && c != '\\') {
                CHECKS.standsOrFaults("to: a@b (↑" + c + ")\r\n\r\n", Mail.inField(c));
            }
        }
        CHECKS.faultAtMark("to: a@b (c)↑)\r\n\r\n");
        CHECKS.faultAtMark("to: ↑)a@b\r\n\r\n");
    }

    private static void commentsWithinComments() {
        CHECKS.asked("with comments in them, 10 deep at most (the 11th ( cannot stand)");
        String nine = "(".repeat(9) + ")".repeat(9);
        String ten = "(".repeat(10) + ")".repeat(10);
        for (int k = 0; k < NAMES.length; k++) {
            String right = SPACED[k].replace("~", "");
            CHECKS.stands(NAMES[k] + ":" + nine + right + nine + "\r\n\r\n", 1);
            CHECKS.stands(NAMES[k] + ":" + ten + ten + right + ten + " " + ten + "\r\n\r\n", 1);
            CHECKS.faultAtMark(NAMES[k] + ":((((((((((↑()))))))))))" + right + "\r\n\r\n");
            CHECKS.faultAtMark(NAMES[k] + ":" + right + "((((((((((↑()))))))))))\r\n\r\n");
        }
        CHECKS.stands("to: a@b ((((((((((x)y(z))()(()())))))))))\r\n\r\n", 1);
        CHECKS.stands("to: a@b " + "(".repeat(9) + "()".repeat(30) + ")".repeat(9) + "\r\n\r\n", 1);
        CHECKS.faultAtMark("to: a@b " + "(".repeat(9) + "()()(↑()))" + ")".repeat(8) + "\r\n\r\n");
        CHECKS.faultAtMark("to: a@b ((((((((((↑(\r\n\r\n");
    }

    private static void backslashInComments() {
        CHECKS.asked("\\ and a byte stand for that byte in comments.");
        for (char c : Mail.BYTES) {
            CHECKS.standsOrFaults("to: a@b (\\↑" + c + ")\r\n\r\n", Mail.inField(c));
        }
        CHECKS.stands("to: a@b (\\)\\(\\\\)\r\n\r\n", 1);
        CHECKS.stands("to: a@b ((((((((((\\(\\())))))))))\r\n\r\n", 1);
        CHECKS.stands("to: a@b (\\\r\n )\r\n\r\n", 1);
        CHECKS.faultAtMark("to: a@b (\\\\)↑)\r\n\r\n");
        CHECKS.faultAtMark("to: a@b ↑\\ \r\n\r\n");
    }

    private static void openComments() {
        CHECKS.asked("when the text ends too soon, the place behind it: of the line end that ends the field");
        for (int k = 0; k < NAMES.length; k++) {
            String right = SPACED[k].replace("~", "");
            CHECKS.faultAtMark(NAMES[k] + ":(" + right + "↑\r\n\r\n");
            CHECKS.faultAtMark(NAMES[k] + ":" + right + "(↑\r\n\r\n");
            CHECKS.faultAtMark(NAMES[k] + ":" + right + "((x)↑\r\n\r\n");
            CHECKS.faultAtMark(NAMES[k] + ":" + right + "(x\\)↑\r\n\r\n");
            CHECKS.faultAtMark(NAMES[k] + ":" + right + "(x\\↑\r\n\r\n");
            CHECKS.faultAtMark(NAMES[k] + ":" + right + "(x\r\n \\↑\r\nx: )\r\n\r\n");
        }
    }

    private static void blanks() {
        CHECKS.asked("BLANKS are 32 and 9.");
        String head = "content-type: multipart/x; boundary=b\r\n\r\n";
        for (String blank : new String[] {" ", "\t"}) {
            CHECKS.stands("a: b\r\n" + blank + "c\r\nto:" + blank + "a" + blank + "@" + blank + "b" + blank + "\r\n\r\n", 1);
            MessageTree tree = CHECKS.stands("subject:" + blank + "a" + blank + "=?utf-8?q?b?=" + blank + "\r\n\r\n", 1);
            CHECKS.same("subject", Mail.subjectOf(tree), "a" + blank + "b");
            CHECKS.stands(head + "--b" + blank + "\r\n\r\n\r\n--b--" + blank, 2);
            CHECKS.faultAtMark("content-transfer-encoding: quoted-printable\r\n\r\na↑" + blank + "\r\n");
        }
        for (String other : new String[] {"\0", "\13", "\f", "\37", "!", "\u00a0", "\u0085"}) {
            CHECKS.faultAtMark(head + "--b" + other + "\r\n\r\n\r\n↑--b--");
            if (!other.equals("!")) {
                CHECKS.faultAtMark("a: b\r\n↑" + other + "c\r\n\r\n");
                CHECKS.faultAtMark("to: a@b↑" + other + "\r\n\r\n");
            }
        }
    }

    private static void smallAndGreat() {
        CHECKS.asked("Letters, where names and words are compared, are the same small and great");
        String message = "content-type: multipart/x; boundary=B\r\ncontent-transfer-encoding: binary\r\nsubject: =?iso-8859-1?q?a?=\r\n"
                + "date: thu, 1 jan 1970 00:00 +0000\r\nfrom: a@b\r\nto: a@b\r\n\r\n--B\r\n\r\n\r\n--B--";
        for (String one : new String[] {message, message.toUpperCase()}) {
            MessageTree tree = CHECKS.stands(one, 2);
            for (int f = 0; f < 6; f++) {
                CHECKS.same("kind of field " + f, tree.kind(0, f), f + 1);
            }
            CHECKS.same("code", tree.entity(0, 4), 2);
            CHECKS.same("size of the subject", tree.subject(-1), 1);
        }
        // A boundary is no word: it is the bytes that it is.
        CHECKS.faultAtMark("content-type: multipart/x; boundary=B\r\n\r\n--b\r\n\r\n\r\n--b--↑");
    }
}
