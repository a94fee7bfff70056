/** Promises 4, 5 and 6 as to parts, their numbers and their boundaries. */
public final class PartsTest {
    private static final Checks CHECKS = new Checks("PartsTest");
    private static final String HEAD = "content-type: multipart/mixed; boundary=b\r\n\r\n";

    public static void main(String[] args) {
        parts();
        delimiters();
        wrongParts();
        nesting();
        fortyEntities();
        wrongPlaces();
        CHECKS.finish();
    }

    private static void parts() {
        MessageTree right = CHECKS.stands(HEAD + "before\r\n--b\r\nx: y\r\n\r\none\r\n\r\n--b\r\ncontent-type: multipart/x; "
                + "boundary=c\r\n\r\n--c\r\n\r\ninner\r\n--c\r\n\r\ninner too\r\n--c--\r\n--b\r\n\r\n\r\n--b--\r\n--b\r\nbehind", 6);
        int[][] due = {{-1, 3, 1, 0, 0, 1, 1}, {0, 0, 1, 5, 0, 0, 0}, {0, 2, 1, 0, 0, 1, 1},
            {2, 0, 0, 5, 0, 0, 0}, {2, 0, 0, 9, 0, 0, 0}, {0, 0, 0, 0, 0, 0, 0}};
        for (int i = 0; i < due.length; i++) {
            for (int what = 0; what < 7; what++) {
                CHECKS.same("entity(" + i + ", " + what + ")", right.entity(i, what), due[i][what]);
            }
        }
        int[] numbers = {1, 2, 5, -1};
        for (int k = 0; k < numbers.length; k++) {
            CHECKS.same("part " + k, right.part(0, k), numbers[k]);
        }
        CHECKS.same("part of the second", right.part(2, 1), 4);
        CHECKS.same("part of a leaf", right.part(1, 0), -1);
        CHECKS.same("body 1", Mail.body(right, 1), "one\r\n");
        CHECKS.same("body 3", Mail.body(right, 3), "inner");
        CHECKS.same("body 4", Mail.body(right, 4), "inner too");
        CHECKS.outside("octet of a multipart", () -> right.octet(0, 0));
    }

    private static void delimiters() {
        CHECKS.stands(HEAD + "--b\r\n\r\n\r\n--b--", 2);
        CHECKS.stands(HEAD + "\r\n--b \t \r\n\r\n\r\n--b-- \t\r\n", 2);
        String inner = " --b\r\n--bb\r\n--b x\r\n--b-\r\n--b--x\r\n--b---\r\n--b ---\r\n--B\r\n-b\r\n"
                + "x-b\r\n-xb\r\nx-b--\r\n--bx-\r\n--b-x\r\n--x\r\n--";
        MessageTree tree = CHECKS.stands(HEAD + inner + "\r\n--b\r\n\r\n" + inner + "\r\n--b--", 2);
        CHECKS.same("lines that are none", Mail.body(tree, 1), inner);
        String dashes = "content-type: multipart/mixed; boundary=\"b--\"\r\n\r\n";
        CHECKS.stands(dashes + "--b--\r\n\r\n\r\n--b--\r\n\r\n\r\n--b----", 3);
        CHECKS.faultAtMark(dashes + "↑--b----\r\n--b--\r\n");
        MessageTree blank = CHECKS.stands("content-type: multipart/mixed; boundary=\" a b\"\r\n\r\n-- a b\r\n\r\n-- a\r\n-- a b--", 2);
        CHECKS.same("blanks in a boundary", Mail.body(blank, 1), "-- a");
        CHECKS.stands(HEAD + "--b\r\n\r\n\r\n--b--\r\n--b\r\n\0\u00ff", 2);
    }

    private static void wrongParts() {
        CHECKS.faultAtMark(HEAD + "↑");
        CHECKS.faultAtMark(HEAD + "no delimiter\r\n↑");
        CHECKS.faultAtMark(HEAD + "--b↑");
        CHECKS.faultAtMark(HEAD + "--b\r\n↑");
        CHECKS.faultAtMark(HEAD + "--b\r\n\r\n--c--\r\n↑");
        CHECKS.faultAtMark(HEAD + "x\r\n↑--b--");
        CHECKS.faultAtMark(HEAD + "↑--b--\r\n--b\r\n\r\n\r\n--b--");
        CHECKS.faultAtMark(HEAD + "--b\r\n↑--b--");
        CHECKS.faultAtMark(HEAD + "--b\r\n↑\r\n--b--");
        CHECKS.faultAtMark(HEAD + "--b\r\nx↑\r\n--b--");
        CHECKS.faultAtMark(HEAD + "--b\r\nx: y↑\r\n--b--");
        CHECKS.faultAtMark(HEAD + "--b\r\nx: y\r\n↑\r\n--b--");
        CHECKS.faultAtMark(HEAD + "--b\r\n\r\n\r\n--b\r\n↑--b--");
        // A part is read as soon as the delimiter behind it is found.
        CHECKS.faultAtMark(HEAD + "--b\r\n↑ bad\r\n\r\n--b\r\n\r\n");
        CHECKS.faultAtMark(HEAD + "--b\r\n bad\r\n\r\n↑");
        CHECKS.faultAtMark(HEAD + "--b\r\n\r\n\r\n--b\r\n bad\r\n↑");
        String nested = "content-type: multipart/x; boundary=c\r\n\r\n";
        CHECKS.faultAtMark(HEAD + "--b\r\n" + nested + "--c\r\n\r\n↑\r\n--b--\r\n--c--");
        CHECKS.faultAtMark(HEAD + "--b\r\n" + nested + "x↑\r\n--b--");
        CHECKS.faultAtMark(HEAD + "--b\r\n" + nested + "↑--c--\r\n--b--");
        CHECKS.faultAtMark(HEAD + "--b\r\n" + nested.replace("=c", "=b") + "↑\r\n--b\r\n\r\n\r\n--b--");
    }

    private static String nested(int depth, boolean marked) {
        StringBuilder text = new StringBuilder();
        for (int k = 0; k < depth; k++) {
            String mark = marked && k == depth - 1 ? "↑" : "";
            text.append("content-type: " + mark + "multipart/x; boundary=" + k + "\r\n\r\n--" + k + "\r\n");
        }
        text.append("\r\nleaf");
        for (int k = depth - 1; k >= 0; k--) {
            text.append("\r\n--" + k + "--");
        }
        return text.toString();
    }

    private static void nesting() {
        MessageTree tree = CHECKS.stands(nested(6, false), 7);
        CHECKS.same("innermost", Mail.body(tree, 6), "leaf");
        for (int i = 0; i < 7; i++) {
            CHECKS.same("parent of " + i, tree.entity(i, 0), i - 1);
        }
        CHECKS.faultAtMark(nested(7, true));
        CHECKS.faultAtMark(nested(8, false).replace("content-type: multipart/x; boundary=6", "content-type: ↑multipart/x; boundary=6"));
        // A multipart behind deep ones does not lie within them.
        String twice = HEAD + "--b\r\n" + nested(5, false) + "\r\n--b\r\n" + nested(5, false) + "\r\n--b--";
        CHECKS.stands(twice, 13);
    }

    private static void fortyEntities() {
        String forty = HEAD + "--b\r\n\r\nx\r\n".repeat(39);
        MessageTree tree = CHECKS.stands(forty + "--b--", 40);
        CHECKS.same("parts", tree.entity(0, 1), 39);
        CHECKS.same("the last one", tree.part(0, 38), 39);
        CHECKS.same("its body", Mail.body(tree, 39), "x");
        CHECKS.faultAtMark(forty + "↑--b\r\n\r\nx\r\n--b--");
        CHECKS.faultAtMark(forty + "↑--b");
        CHECKS.faultAtMark(forty + "↑");
        String inner = "--b\r\ncontent-type: multipart/x; boundary=c\r\n\r\n";
        String thirty = HEAD + "--b\r\n\r\nx\r\n".repeat(30) + inner;
        CHECKS.stands(thirty + "--c\r\n\r\nx\r\n".repeat(8) + "--c--\r\n--b--", 40);
        CHECKS.faultAtMark(thirty + "--c\r\n\r\nx\r\n".repeat(8) + "↑--c\r\n\r\nx\r\n--c--\r\n--b--");
        CHECKS.faultAtMark(thirty + "--c\r\n\r\nx\r\n".repeat(8) + "--c--\r\n↑--b\r\n\r\nx\r\n--b--");
    }

    private static void wrongPlaces() {
        MessageTree tree = CHECKS.stands(HEAD + "--b\r\n\r\n\r\n--b--", 2);
        CHECKS.outside("entity 2", () -> tree.entity(2, 0));
        CHECKS.outside("entity -1", () -> tree.entity(-1, 0));
        CHECKS.outside("entity far away", () -> tree.entity(Integer.MAX_VALUE, 0));
        CHECKS.outside("what 7", () -> tree.entity(0, 7));
        CHECKS.outside("what -1", () -> tree.entity(0, -1));
        CHECKS.outside("part of entity 2", () -> tree.part(2, 0));
        CHECKS.outside("part of entity -1", () -> tree.part(-1, 0));
        CHECKS.same("part 1", tree.part(0, 1), -1);
        CHECKS.same("part -1", tree.part(0, -1), -1);
        CHECKS.same("part far away", tree.part(0, Integer.MIN_VALUE), -1);
    }
}
