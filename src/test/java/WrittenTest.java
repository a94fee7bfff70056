import java.nio.charset.StandardCharsets;
import java.util.Base64;

/** Promises 16, 17 and 18: write, out and again. */
public final class WrittenTest {
    private static final Checks CHECKS = new Checks("WrittenTest");
    private static final String PLAIN = "content-type: text/plain\r\ncontent-transfer-encoding: base64\r\n\r\n";

    public static void main(String[] args) {
        fields();
        folds();
        types();
        bodies();
        parts();
        again();
        outStays();
        dearest();
        CHECKS.finish();
    }

    private static void writes(String message, String due) {
        MessageTree tree = new MessageTree();
        Mail.put(tree, message);
        tree.read();
        CHECKS.same("written of " + Mail.shown(message), Mail.written(tree), due);
    }

    private static void fields() {
        writes("\r\n", PLAIN);
        writes("A:b\r\nX-Y: \t c d \t\r\ne:\r\nf: \r\n\r\n", "A: b\r\nX-Y: c d\r\ne: \r\nf: \r\n" + PLAIN);
        writes("Content-Type: TEXT/Plain\r\na: b\r\nContent-Transfer-Encoding: 8bit\r\nSUBJECT: c\r\nfrom: D@E\r\n\r\n",
                "a: b\r\nSUBJECT: c\r\nfrom: D@E\r\n" + PLAIN);
        writes("a: b\r\n c\r\n\t\td\r\n\r\n", "a: b c\t\td\r\n" + PLAIN);
    }

    private static void folds() {
        String w70 = "w".repeat(70);
        String w75 = "w".repeat(75);
        String w76 = "w".repeat(76);
        writes("a: " + w70 + " 1234\r\n\r\n", "a: " + w70 + " 1234\r\n" + PLAIN);
        writes("a: " + w70 + " 12345\r\n\r\n", "a: " + w70 + "\r\n 12345\r\n" + PLAIN);
        writes("a: " + w70 + "  1234\r\n\r\n", "a: " + w70 + "\r\n  1234\r\n" + PLAIN);
        writes("a: " + w70 + "\t1234 5\r\n\r\n", "a: " + w70 + "\t1234\r\n 5\r\n" + PLAIN);
        writes("a: " + w76 + "\r\n\r\n", "a: " + w76 + "\r\n" + PLAIN);
        writes("a: " + w76 + " x\r\n\r\n", "a: " + w76 + "\r\n x\r\n" + PLAIN);
        writes("a:\r\n " + w75 + " " + w75 + " x y\r\n\r\n", "a: " + w75 + "\r\n " + w75 + " x\r\n y\r\n" + PLAIN);
        String w90 = "w".repeat(90);
        writes("a: " + w90 + " " + w90 + "   " + w90 + "\r\n\r\n", "a: " + w90 + "\r\n " + w90 + "\r\n   " + w90 + "\r\n" + PLAIN);
        writes("a: b" + " ".repeat(90) + "c\r\n\r\n", "a: b\r\n" + " ".repeat(90) + "c\r\n" + PLAIN);
        String name = "n".repeat(40);
        writes(name + ": " + "w".repeat(40) + " x\r\n\r\n", name + ": " + "w".repeat(40) + "\r\n x\r\n" + PLAIN);
        writes("a: b\r\n c\r\n d\r\n\r\n", "a: b c d\r\n" + PLAIN);
    }

    private static void types() {
        writes("content-type: A / B (c) ; X=Y;z=\"a \\\"\\\\\\b\";e=\"\"\r\n\r\n",
                "content-type: a/b;\r\n x=\"Y\";\r\n z=\"a \\\"\\\\b\";\r\n e=\"\"\r\ncontent-transfer-encoding: base64\r\n\r\n");
        writes("content-type: a/b;boundary=c\r\n\r\n",
                "content-type: a/b;\r\n boundary=\"c\"\r\ncontent-transfer-encoding: base64\r\n\r\n");
    }

    private static void bodies() {
        writes("\r\nA", PLAIN + "QQ==");
        writes("\r\nAB", PLAIN + "QUI=");
        writes("\r\nABC", PLAIN + "QUJD");
        writes("\r\nABC\r\n", PLAIN + "QUJDDQo=");
        writes("content-transfer-encoding: binary\r\n\r\n\0\u00ff\u00fb\u00ef\u00be", PLAIN + "AP/7774=");
        writes("\r\n" + "ABC".repeat(19), PLAIN + "QUJD".repeat(19));
        writes("\r\n" + "ABC".repeat(19) + "A", PLAIN + "QUJD".repeat(19) + "\r\nQQ==");
        writes("\r\n" + "ABC".repeat(38), PLAIN + "QUJD".repeat(19) + "\r\n" + "QUJD".repeat(19));
    }

    private static void parts() {
        writes("content-type: multipart/mixed; x=y; boundary=\"a b\"; z=w\r\nsubject: s\r\n\r\npre\r\n--a b\r\n"
                        + "content-type: multipart/x; boundary=c\r\n\r\n--c\r\nq: r\r\n\r\n1\r\n--c\r\n\r\n2\r\n--c--\r\n"
                        + "--a b\r\n\r\n3\r\n--a b--\r\nbehind",
                "subject: s\r\ncontent-type: multipart/mixed;\r\n x=\"y\";\r\n boundary=\"part0\";\r\n z=\"w\"\r\n\r\n"
                        + "--part0\r\ncontent-type: multipart/x;\r\n boundary=\"part1\"\r\n\r\n--part1\r\nq: r\r\n" + PLAIN
                        + "MQ==\r\n--part1\r\n" + PLAIN + "Mg==\r\n--part1--\r\n--part0\r\n" + PLAIN + "Mw==\r\n--part0--");
        String last = "content-type: multipart/x; boundary=c\r\n\r\n--c\r\n\r\n\r\n--c--";
        writes("content-type: multipart/x; boundary=b\r\n\r\n" + "--b\r\n\r\n\r\n".repeat(9) + "--b\r\n" + last + "\r\n--b--",
                "content-type: multipart/x;\r\n boundary=\"part0\"\r\n\r\n" + ("--part0\r\n" + PLAIN + "\r\n").repeat(9)
                        + "--part0\r\ncontent-type: multipart/x;\r\n boundary=\"part10\"\r\n\r\n--part10\r\n" + PLAIN
                        + "\r\n--part10--\r\n--part0--");
    }

    private static void again() {
        MessageTree tree = CHECKS.stands("subject: s\r\n\r\nbody", 1);
        int size = tree.write();
        CHECKS.same("size", size, ("subject: s\r\n" + PLAIN + "Ym9keQ==").length());
        tree.feed(1, 2, 3, 4, 5);
        CHECKS.same("again", tree.again(), size);
        CHECKS.same("feed behind it", tree.feed(0, 0, 0, 0, 0), size + 20);
        tree.end(size);
        CHECKS.same("read", tree.read(), 1);
        CHECKS.same("body", Mail.body(tree, 0), "body");
        CHECKS.same("fields", tree.entity(0, 2), 3);
        CHECKS.same("again a second time", tree.again(), size);
        String long0 = "\r\n" + "x\r\n".repeat(2666);
        MessageTree large = CHECKS.stands(long0, 1);
        int due = PLAIN.length() + 7998 / 3 * 4 + (7998 / 3 * 4 - 1) / 76 * 2;
        CHECKS.same("more than 8000", large.write(), due);
        large.feed(0, 0, 0, 0, 0);
        CHECKS.refused("again of more than 8000", IllegalStateException.class, large::again);
        CHECKS.same("the tape stays", large.feed(0, 0, 0, 0, 0), 40);
        CHECKS.same("the last byte", large.out(due - 1), 'K');
        exactlyFull();
    }

    private static void exactlyFull() {
        String head = "a: " + "y".repeat(900) + "\r\nb: " + "y".repeat(37) + "\r\n\r\n";
        int body = (8000 - head.length() - PLAIN.length() + 2) / 4 * 3;
        for (int size = body - 300; size <= body; size++) {
            MessageTree tree = new MessageTree();
            Mail.put(tree, head + "\r\n".repeat(size / 2) + (size % 2 == 0 ? "" : "z"));
            tree.read();
            int written = tree.write();
            if (written <= 8000) {
                CHECKS.same("again of " + written, tree.again(), written);
            } else {
                CHECKS.refused("again of " + written, IllegalStateException.class, tree::again);
            }
        }
    }

    /** What is written of a full tape of short parts with many parameters and one long body is all there. */
    private static void dearest() {
        String type = "content-type:a/b;c=d;e=f;g=h;i=j;k=l;m=n\r\n";
        String head = "content-type:multipart/x;boundary=b\r\n\r\n" + ("--b\r\n" + type + "x:\r\ny:\r\nz:\r\n\r\n\r\n").repeat(38)
                + "--b\r\ncontent-transfer-encoding:binary\r\n\r\n";
        String body = "\u00ff".repeat(900).concat("\r\n").repeat(9).substring(0, 8000 - head.length() - 7);
        String part = "--part0\r\nx: \r\ny: \r\nz: \r\ncontent-type: a/b;\r\n c=\"d\";\r\n e=\"f\";\r\n g=\"h\";\r\n i=\"j\";\r\n k=\"l\";"
                + "\r\n m=\"n\"\r\ncontent-transfer-encoding: base64\r\n\r\n\r\n";
        writes(head + body + "\r\n--b--", "content-type: multipart/x;\r\n boundary=\"part0\"\r\n\r\n" + part.repeat(38)
                + "--part0\r\n" + PLAIN + coded(body) + "\r\n--part0--");
        String full = "\u00ff".repeat(998).concat("\r\n").repeat(8).substring(0, 8000 - 37);
        writes("content-transfer-encoding: binary\r\n\r\n" + full, PLAIN + coded(full));
    }

    private static String coded(String body) {
        return Base64.getMimeEncoder().encodeToString(body.getBytes(StandardCharsets.ISO_8859_1));
    }

    private static void outStays() {
        MessageTree tree = CHECKS.stands("\r\nA", 1);
        CHECKS.outside("out before a write", () -> tree.out(0));
        int size = tree.write();
        CHECKS.same("out 0", tree.out(0), 'c');
        CHECKS.same("out's last", tree.out(size - 1), '=');
        CHECKS.outside("out behind", () -> tree.out(size));
        CHECKS.outside("out -1", () -> tree.out(-1));
        CHECKS.outside("out far away", () -> tree.out(Integer.MAX_VALUE));
        Mail.put(tree, "a: b\r\n\r\nBBBBBB");
        tree.read();
        CHECKS.same("what was written stays behind a read", tree.out(0), 'c');
        CHECKS.outside("and has no more bytes", () -> tree.out(size));
        CHECKS.same("a second write", tree.write(), size + 6 + 4);
        CHECKS.same("takes its place", tree.out(0), 'a');
        Mail.put(tree, "\r\n");
        tree.read();
        CHECKS.same("a shorter write", tree.write(), PLAIN.length());
        CHECKS.outside("ends where it ends", () -> tree.out(PLAIN.length()));
    }
}
