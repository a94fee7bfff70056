/** Terms 3, how many entities there are and how deep; promises 5 and 6. */
public final class PartsTest {
    private static final Checks CHECKS = new Checks("PartsTest");
    private static final String HEAD = "content-type: multipart/mixed; boundary=b\r\n\r\n";
    private static final String INNER = "content-type: multipart/x; boundary=c\r\n\r\n";

    public static void main(String[] args) {
        parts();
        delimiterLines();
        bytesBehindDelimiters();
        closingOnes();
        fromAndTo();
        beforeAndBehind();
        readOneByOne();
        noDelimiter();
        firstIsClosing();
        innerEnds();
        fortyEntities();
        fortyEntitiesWithin();
        nesting();
        entityAnswers();
        partAnswers();
        CHECKS.finish();
    }

    private static void parts() {
        CHECKS.asked("ENTITIES are numbered as they begin: the message 0, each part when it is come to");
        MessageTree right = CHECKS.stands(HEAD + "before\r\n--b\r\nx: y\r\n\r\none\r\n\r\n--b\r\ncontent-type: multipart/x; "
                + "boundary=c\r\n\r\n--c\r\n\r\ninner\r\n--c\r\n\r\ninner too\r\n--c--\r\n--b\r\n\r\n\r\n--b--\r\n--b\r\nbehind", 6);
        int[][] due = {{-1, 3, 1, 0, 0, 1, 1}, {0, 0, 1, 5, 0, 0, 0}, {0, 2, 1, 0, 0, 1, 1},
            {2, 0, 0, 5, 0, 0, 0}, {2, 0, 0, 9, 0, 0, 0}, {0, 0, 0, 0, 0, 0, 0}};
        for (int i = 0; i < due.length; i++) {
            for (int what = 0; what < 7; what++) {
                CHECKS.same("entity(" + i + ", " + what + ")", right.entity(i, what), due[i][what]);
            }
        }
        int[] numbers = {1, 2, 5, -1};
        for (int k = 0; k < numbers.length; k++) {
            CHECKS.same("part " + k, right.part(0, k), numbers[k]);
        }
        CHECKS.same("the second's first part", right.part(2, 0), 3);
        CHECKS.same("the second's second part", right.part(2, 1), 4);
        CHECKS.same("the second has no third", right.part(2, 2), -1);
        CHECKS.same("part of a leaf", right.part(1, 0), -1);
        CHECKS.same("body 1", Mail.body(right, 1), "one\r\n");
        CHECKS.same("body 3", Mail.body(right, 3), "inner");
        CHECKS.same("body 4", Mail.body(right, 4), "inner too");
        CHECKS.same("body 5", Mail.body(right, 5), "");
    }

    private static void delimiterLines() {
        CHECKS.asked("In the BODY of a multipart a DELIMITER is a line that begins with --, the boundary");
        CHECKS.stands(HEAD + "--b\r\n\r\n\r\n--b--", 2);
        String none = " --b\r\n--bb\r\n--b x\r\n--b-\r\n--b--x\r\n--b---\r\n--b ---\r\n--B\r\n-b\r\nb\r\n"
                + "x-b\r\n-xb\r\nx-b--\r\n--bx-\r\n--b-x\r\n--x\r\n--\r\n-\r\n---b\r\n-- b\r\n\r\n--b- -\r\nx--b\r\n\t--b\r\n--b--b";
        MessageTree tree = CHECKS.stands(HEAD + none + "\r\n--b\r\n\r\n" + none + "\r\n--b--", 2);
        CHECKS.same("lines that are none", Mail.body(tree, 1), none);
        MessageTree blank = CHECKS.stands("content-type: multipart/mixed; boundary=\" a b\"\r\n\r\n-- a b\r\n\r\n-- a\r\n-- a b--", 2);
        CHECKS.same("blanks in a boundary", Mail.body(blank, 1), "-- a");
        MessageTree head = CHECKS.stands("content-type: multipart/mixed; boundary=b\r\n--b: c\r\n\r\n--b\r\n\r\n\r\n--b--", 2);
        CHECKS.same("a field is no delimiter", head.entity(0, 2), 2);
        String long0 = "q".repeat(70);
        CHECKS.stands("content-type: multipart/mixed; boundary=\"" + long0 + "\"\r\n\r\n--" + long0 + "\r\n\r\n--"
                + long0.substring(1) + "\r\n--" + long0 + "q\r\n--" + long0 + "--", 2);
    }

    private static void bytesBehindDelimiters() {
        CHECKS.asked("perhaps -- (then it is a CLOSING one), and has just blanks behind that");
        for (char c : Mail.BYTES) {
            boolean blank = c == ' ' || c == '\t';
            String code = "content-transfer-encoding: binary\r\n";
            if (blank) {
                CHECKS.stands(HEAD + "--b" + c + "\r\n\r\n\r\n--b--" + c, 2);
            } else {
                CHECKS.faultAtMark(HEAD + "--b" + c + "\r\n\r\n\r\n↑--b--");
                CHECKS.faultAtMark(HEAD + "--b " + c + "\r\n\r\n\r\n↑--b--");
                CHECKS.faultAtMark(HEAD + "--b\r\n" + code + "\r\n\r\n--b--" + c + "↑");
                CHECKS.faultAtMark(HEAD + "--b\r\n" + code + "\r\n\r\n--b-- " + c + "\r\n↑");
            }
        }
        CHECKS.stands(HEAD + "\r\n--b \t \r\n\r\n\r\n--b-- \t\r\n", 2);
        CHECKS.stands(HEAD + "--b" + " ".repeat(995) + "\r\n\r\n\r\n--b--" + "\t".repeat(993), 2);
    }

    private static void closingOnes() {
        CHECKS.asked("perhaps -- (then it is a CLOSING one), and has just blanks behind that");
        String dashes = "content-type: multipart/mixed; boundary=\"b--\"\r\n\r\n";
        CHECKS.stands(dashes + "--b--\r\n\r\n\r\n--b--\r\n\r\n\r\n--b----", 3);
        CHECKS.faultAtMark(dashes + "↑--b----\r\n--b--\r\n");
        String two = "content-type: multipart/mixed; boundary=\"--\"\r\n\r\n";
        CHECKS.stands(two + "----\r\n\r\n--\r\n----\r\n\r\n---\r\n------", 3);
        MessageTree blank = CHECKS.stands(HEAD + "--b\r\n\r\n--b --\r\n--b--", 2);
        CHECKS.same("no blank before the --", Mail.body(blank, 1), "--b --");
    }

    private static void fromAndTo() {
        CHECKS.asked("PARTS are entities from behind a delimiter's line end (or b) to before the line end "
                + "that stands before the next delimiter (if that follows at once: without any byte).");
        for (String body : new String[] {"", "x", "\r\n", "\r\n\r\n", "x\r\n", "\r\nx", " ", "--"}) {
            MessageTree tree = CHECKS.stands(HEAD + "--b\r\n\r\n" + body + "\r\n--b\r\n\r\n" + body + "\r\n--b--", 3);
            CHECKS.same("body", Mail.body(tree, 1), body);
            CHECKS.same("body before the closing one", Mail.body(tree, 2), body);
        }
        CHECKS.faultAtMark(HEAD + "--b\r\n↑--b--");
        CHECKS.faultAtMark(HEAD + "--b\r\n↑--b\r\n\r\n\r\n--b--");
        CHECKS.faultAtMark(HEAD + "--b\r\n\r\n\r\n--b\r\n↑--b--");
        CHECKS.faultAtMark(HEAD + "--b\r\n↑\r\n--b--");
        CHECKS.faultAtMark(HEAD + "--b\r\nx↑\r\n--b--");
        CHECKS.faultAtMark(HEAD + "--b\r\nx: y↑\r\n--b--");
        CHECKS.faultAtMark(HEAD + "--b\r\nx: y\r\n↑\r\n--b--");
        CHECKS.stands(HEAD + "--b\r\nx: y\r\n\r\n\r\n--b--", 2);
        CHECKS.faultAtMark(HEAD + "--b↑");
    }

    private static void beforeAndBehind() {
        CHECKS.asked("behind the closing one nothing counts, nor before the first one");
        String junk = "no field\r\n\0\u00ff\r\n--c\r\n--c--\r\n --b--\r\n";
        MessageTree tree = CHECKS.stands(HEAD + junk + "--b\r\n\r\nx\r\n--b--\r\n" + junk + "--b\r\n--b--\r\n--b\r\nbad", 2);
        CHECKS.same("body", Mail.body(tree, 1), "x");
        CHECKS.stands(HEAD + "\r\n\r\n--b\r\n\r\nx\r\n--b--", 2);
        CHECKS.stands(HEAD + "--b\r\n" + INNER + junk.replace("--c", "--d") + "--c\r\n\r\n\r\n--c--\r\n" + junk + "--c\r\n\r\n--b--", 3);
    }

    private static void readOneByOne() {
        CHECKS.asked("They are read one by one, each as soon as the delimiter behind it is found");
        CHECKS.faultAtMark(HEAD + "--b\r\n↑ bad\r\n\r\n--b\r\n\r\n");
        CHECKS.faultAtMark(HEAD + "--b\r\n bad\r\n\r\n↑");
        CHECKS.faultAtMark(HEAD + "--b\r\n\r\n\r\n--b\r\n bad\r\n↑");
        CHECKS.faultAtMark(HEAD + "--b\r\n\r\n↑\0\r\n--b\r\n bad\r\n\r\n--b--");
        CHECKS.faultAtMark(HEAD + "--b\r\n\r\nx\r\n--b\r\n↑ bad\r\n\r\n--b--");
        CHECKS.faultAtMark(HEAD + "--b\r\ncontent-type: ↑?\r\n\r\n\r\n--b\r\n bad\r\n\r\n--b--");
        CHECKS.faultAtMark(HEAD + "--b\r\n" + INNER + "--c\r\n\r\n↑\0\r\n--c--\r\n--b\r\n bad\r\n\r\n--b--");
        CHECKS.faultAtMark(HEAD + "--b\r\n" + INNER + "--c\r\n\r\n\0\r\n--c--\r\n↑");
    }

    private static void noDelimiter() {
        CHECKS.asked("b, when there is no delimiter, or none behind one that is not closing (the parts before it were read)");
        CHECKS.faultAtMark(HEAD + "↑");
        CHECKS.faultAtMark(HEAD + "no delimiter↑");
        CHECKS.faultAtMark(HEAD + "no delimiter\r\n↑");
        CHECKS.faultAtMark(HEAD + "\r\n\r\n↑");
        CHECKS.faultAtMark(HEAD + "--b↑");
        CHECKS.faultAtMark(HEAD + "--b\r\n↑");
        CHECKS.faultAtMark(HEAD + "--b\r\n\r\n--c--\r\n↑");
        CHECKS.faultAtMark(HEAD + "--b\r\n\r\nx\r\n--b\r\n↑");
        CHECKS.faultAtMark(HEAD + "--b\r\n\r\nx\r\n--b\r\n\r\ny↑");
        CHECKS.faultAtMark(HEAD + "--b\r\n\r\n↑\0\r\n--b\r\n\r\ny");
        CHECKS.faultAtMark("content-type: multipart/mixed; boundary=b\r\n↑");
    }

    private static void firstIsClosing() {
        CHECKS.asked("if the first one is closing: its first byte");
        CHECKS.faultAtMark(HEAD + "↑--b--");
        CHECKS.faultAtMark(HEAD + "x\r\n↑--b--");
        CHECKS.faultAtMark(HEAD + "↑--b-- \r\n--b\r\n\r\n\r\n--b--");
        CHECKS.faultAtMark(HEAD + "--b\r\n" + INNER + "↑--c--\r\n--b--");
        CHECKS.stands(HEAD + "--b\r\n\r\n\r\n--b--\r\n--b--", 2);
    }

    private static void innerEnds() {
        CHECKS.asked("(b is that of the multipart.)");
        CHECKS.faultAtMark(HEAD + "--b\r\n" + INNER + "--c\r\n\r\n↑\r\n--b--\r\n--c--");
        CHECKS.faultAtMark(HEAD + "--b\r\n" + INNER + "x↑\r\n--b--");
        CHECKS.faultAtMark(HEAD + "--b\r\n" + INNER + "↑\r\n--b--");
        CHECKS.faultAtMark(HEAD + "--b\r\n" + INNER + "--c↑\r\n--b--");
        CHECKS.faultAtMark(HEAD + "--b\r\n" + INNER + "x\r\n--c\r\n\r\n\r\n--c\r\n↑\r\n--b--\r\n--c--");
        CHECKS.faultAtMark(HEAD + "--b\r\n" + INNER.replace("=c", "=b") + "↑\r\n--b\r\n\r\n\r\n--b--");
        MessageTree tree = CHECKS.stands(HEAD + "--b\r\n" + INNER + "--c\r\n\r\nx\r\n--c--\r\n--b--", 3);
        CHECKS.same("an inner one that ends before the outer one's line end", Mail.body(tree, 2), "x");
    }

    private static void fortyEntities() {
        CHECKS.asked("ENTITIES are numbered as they begin: the message 0, each part when it is come to; at most 40.");
        String thirtyNine = HEAD + "--b\r\n\r\nx\r\n".repeat(38);
        CHECKS.stands(thirtyNine + "--b--", 39);
        String forty = thirtyNine + "--b\r\n\r\ny\r\n";
        MessageTree tree = CHECKS.stands(forty + "--b--", 40);
        CHECKS.same("parts", tree.entity(0, 1), 39);
        CHECKS.same("the first one", tree.part(0, 0), 1);
        CHECKS.same("the last one", tree.part(0, 38), 39);
        CHECKS.same("its body", Mail.body(tree, 39), "y");
        CHECKS.same("its multipart", tree.entity(39, 0), 0);
        CHECKS.asked("of a part that is one too many its delimiter's first byte (before the next one is looked for)");
        CHECKS.faultAtMark(forty + "↑--b\r\n\r\nx\r\n--b--");
        CHECKS.faultAtMark(forty + "↑--b\r\n bad\r\n--b--");
        CHECKS.faultAtMark(forty + "↑--b\r\n\r\nx");
        CHECKS.faultAtMark(forty + "↑--b");
        CHECKS.faultAtMark(forty + "↑");
        CHECKS.faultAtMark(HEAD + "--b\r\n\r\nx\r\n".repeat(38) + "--b\r\n\r\n↑\0\r\n--b\r\n\r\nx\r\n--b--");
    }

    private static void fortyEntitiesWithin() {
        CHECKS.asked("of a part that is one too many its delimiter's first byte (before the next one is looked for)");
        String thirty = HEAD + "--b\r\n\r\nx\r\n".repeat(30) + "--b\r\n" + INNER;
        String full = thirty + "--c\r\n\r\nx\r\n".repeat(8);
        CHECKS.stands(full + "--c--\r\n--b--", 40);
        CHECKS.faultAtMark(full + "↑--c\r\n\r\nx\r\n--c--\r\n--b--");
        CHECKS.faultAtMark(full + "--c--\r\n↑--b\r\n\r\nx\r\n--b--");
        CHECKS.faultAtMark(full + "--c--\r\n↑--b\r\n\r\nx");
        String last = HEAD + "--b\r\n\r\nx\r\n".repeat(38) + "--b\r\n" + INNER;
        CHECKS.faultAtMark(last + "before\r\n↑--c\r\n\r\nx\r\n--c--\r\n--b--");
        CHECKS.faultAtMark(last + "↑\r\n--b--");
        CHECKS.faultAtMark(last + "↑--c--\r\n--b--");
    }

    private static String nested(int depth, boolean marked) {
        StringBuilder text = new StringBuilder();
        for (int k = 0; k < depth; k++) {
            String mark = marked && k == depth - 1 ? "↑" : "";
            text.append("content-type: " + mark + "multipart/x; boundary=" + k + "\r\n\r\n--" + k + "\r\n");
        }
        text.append("\r\nleaf");
        for (int k = depth - 1; k >= 0; k--) {
            text.append("\r\n--" + k + "--");
        }
        return text.toString();
    }

    private static void nesting() {
        CHECKS.asked("and it lies within 5 others at most: else (when all bytes could stand) a FAULT at the first TOKEN");
        CHECKS.stands(nested(5, false), 6);
        MessageTree tree = CHECKS.stands(nested(6, false), 7);
        CHECKS.same("innermost", Mail.body(tree, 6), "leaf");
        for (int i = 0; i < 7; i++) {
            CHECKS.same("multipart of " + i, tree.entity(i, 0), i - 1);
            CHECKS.same("its part", tree.part(i, 0), i < 6 ? i + 1 : -1);
        }
        CHECKS.faultAtMark(nested(7, true));
        CHECKS.faultAtMark(nested(8, false).replace("content-type: multipart/x; boundary=6", "content-type: ↑multipart/x; boundary=6"));
        CHECKS.faultAtMark(nested(7, true).replace("boundary=6", "boundary=6 ?").replace("↑", "").replace(" ?", " ↑?"));
        // Another type may lie as deep, and a multipart behind deep ones does not lie within them.
        CHECKS.stands(nested(6, false).replace("\r\nleaf", "content-type: a/b; boundary=6\r\n\r\nleaf"), 7);
        CHECKS.stands(HEAD + "--b\r\n" + nested(5, false) + "\r\n--b\r\n" + nested(5, false) + "\r\n--b--", 13);
        CHECKS.faultAtMark(HEAD + "--b\r\n" + nested(5, false) + "\r\n--b\r\n" + nested(6, true) + "\r\n--b--");
    }

    private static void entityAnswers() {
        CHECKS.asked("Of entity i: what = 0 the entity whose part it is (NONE), 1 how many parts, 2 how many fields, "
                + "3 bytes of a leaf, decoded (0 of others), 4 its code (0 7bit, 1 8bit, 2 binary, 3 base64, 4 quoted-printable), "
                + "5 how many parameters its type has, 6 whether it is a multipart (1, 0).");
        MessageTree tree = CHECKS.stands(HEAD + "--b\r\nx: y\r\ncontent-transfer-encoding: 8bit\r\n\r\nz\u0080\r\n--b--", 2);
        int[][] due = {{-1, 1, 1, 0, 0, 1, 1}, {0, 0, 2, 2, 1, 0, 0}};
        for (int i = 0; i < due.length; i++) {
            for (int what = 0; what < 7; what++) {
                CHECKS.same("entity(" + i + ", " + what + ")", tree.entity(i, what), due[i][what]);
            }
        }
        CHECKS.asked("IndexOutOfBoundsException: there is no such entity, or what.");
        CHECKS.outside("entity 2 of 2", () -> tree.entity(2, 0));
        CHECKS.outside("entity -1", () -> tree.entity(-1, 0));
        CHECKS.outside("what 7", () -> tree.entity(0, 7));
        CHECKS.outside("what -1", () -> tree.entity(0, -1));
        CHECKS.outside("entity 40", () -> tree.entity(40, 0));
        for (int n : Mail.NO_PLACES) {
            CHECKS.outside("entity " + n, () -> tree.entity(n, 0));
            CHECKS.outside("what " + n, () -> tree.entity(0, n));
        }
    }

    private static void partAnswers() {
        CHECKS.asked("The number of the k-th part (0 the first) of entity i; NONE. IndexOutOfBoundsException: there is no such entity.");
        MessageTree tree = CHECKS.stands(HEAD + "--b\r\n\r\n\r\n--b--", 2);
        CHECKS.same("part 0", tree.part(0, 0), 1);
        CHECKS.same("part 1 of 1", tree.part(0, 1), -1);
        CHECKS.same("part -1", tree.part(0, -1), -1);
        CHECKS.same("part 0 of a leaf", tree.part(1, 0), -1);
        CHECKS.same("part -1 of a leaf", tree.part(1, -1), -1);
        CHECKS.outside("part of entity 2 of 2", () -> tree.part(2, 0));
        CHECKS.outside("part of entity -1", () -> tree.part(-1, 0));
        CHECKS.outside("part -1 of entity -1", () -> tree.part(-1, -1));
        for (int n : Mail.NO_PLACES) {
            CHECKS.same("part " + n, tree.part(0, n), -1);
            CHECKS.outside("part of entity " + n, () -> tree.part(n, 0));
        }
    }
}
