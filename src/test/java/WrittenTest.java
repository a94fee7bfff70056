import java.nio.charset.StandardCharsets;
import java.util.Base64;

/** Terms 5 and what reads back; promises 16, 17 and 18. */
public final class WrittenTest {
    private static final Checks CHECKS = new Checks("WrittenTest");
    private static final String PLAIN = "content-type: text/plain\r\ncontent-transfer-encoding: base64\r\n\r\n";

    public static void main(String[] args) {
        fields();
        withoutBlanks();
        pieces();
        longerThan78();
        somePieceAlready();
        types();
        parameters();
        codes();
        seventySixSigns();
        parts();
        numbersOfBoundaries();
        partsOfNoBytes();
        readsBack();
        longLines();
        twoFieldsMore();
        writeRefused();
        outAnswers();
        outStays();
        again();
        againRefused();
        againOfAllSizes();
        dearest();
        CHECKS.finish();
    }

    private static void writes(String message, String due) {
        MessageTree tree = new MessageTree();
        Mail.put(tree, message);
        tree.read();
        CHECKS.same("size written of " + Mail.shown(message), tree.write(), due.length());
        CHECKS.same("written of " + Mail.shown(message), Mail.written(tree), due);
    }

    /** A text of the one field a is written in these lines. */
    private static void folds(String text, String lines) {
        writes("a:" + text + "\r\n\r\n", "a: " + lines + "\r\n" + PLAIN);
    }

    private static void fields() {
        CHECKS.asked("all fields but kinds 1 and 2, in their order: the NAME as it was, : and blank (32)");
        writes("\r\n", PLAIN);
        writes("A:b\r\nX-Y: \t c d \t\r\ne:\r\nf: \r\n\r\n", "A: b\r\nX-Y: c d\r\ne: \r\nf: \r\n" + PLAIN);
        writes("Content-Type: TEXT/Plain\r\na: b\r\nContent-Transfer-Encoding: 8bit\r\nSUBJECT: c\r\nfrom: D@E\r\n\r\n",
                "a: b\r\nSUBJECT: c\r\nfrom: D@E\r\n" + PLAIN);
        writes("to: (x) A <b@C>\r\ndate: 1 Jan 2000 00:00 +0000\r\nsubject: =?utf-8?q?a?=\r\nb:2\r\na:1\r\n\r\n",
                "to: (x) A <b@C>\r\ndate: 1 Jan 2000 00:00 +0000\r\nsubject: =?utf-8?q?a?=\r\nb: 2\r\na: 1\r\n" + PLAIN);
        String name = "n".repeat(40);
        writes(name + ":\r\n\r\n", name + ": \r\n" + PLAIN);
    }

    private static void withoutBlanks() {
        CHECKS.asked("its TEXT without blanks at its beginning and end, FOLDED");
        folds("", "");
        folds(" ", "");
        folds("\t \r\n \t", "");
        folds("b", "b");
        folds(" \t b \t ", "b");
        folds("\r\n b\r\n ", "b");
        folds(" b\r\n c\r\n\t\td", "b c\t\td");
        folds(" ".repeat(90) + "b", "b");
        folds("b" + " ".repeat(90), "b");
    }

    private static void pieces() {
        CHECKS.asked("it is cut before blanks into pieces, a piece being blanks and what follows up to the next blank");
        String w70 = "w".repeat(70);
        folds(w70 + "  1234", w70 + "\r\n  1234");
        folds(w70 + "\t1234 5", w70 + "\t1234\r\n 5");
        folds(w70 + " \t 1234567 8", w70 + "\r\n \t 1234567 8");
        folds("b" + " ".repeat(90) + "c", "b\r\n" + " ".repeat(90) + "c");
        folds("b\r\n c\r\n d", "b c d");
        folds(w70 + "\r\n 1234\r\n 5", w70 + " 1234\r\n 5");
    }

    private static void longerThan78() {
        CHECKS.asked("a piece that would make its line longer than 78 begins a new line, if the line has some piece already");
        String w70 = "w".repeat(70);
        folds(w70 + " 123", w70 + " 123");
        folds(w70 + " 1234", w70 + " 1234");
        folds(w70 + " 12345", w70 + "\r\n 12345");
        // The second line has no name: 78 are its own bytes.
        String w76 = "w".repeat(76);
        folds(w70 + " " + w76 + " x", w70 + "\r\n " + w76 + "\r\n x");
        folds(w70 + " " + w76.substring(1) + " x", w70 + "\r\n " + w76.substring(1) + " x");
        folds(w70 + " " + w76.substring(1) + " xx", w70 + "\r\n " + w76.substring(1) + "\r\n xx");
        folds(w70 + " " + w76.substring(2) + " xx", w70 + "\r\n " + w76.substring(2) + " xx");
        folds(w70 + " " + w76.substring(2) + " xxx", w70 + "\r\n " + w76.substring(2) + "\r\n xxx");
        folds(w70 + " " + w76 + " " + w76 + " " + w76.substring(2) + " xx yy",
                w70 + "\r\n " + w76 + "\r\n " + w76 + "\r\n " + w76.substring(2) + " xx\r\n yy");
        folds("a".concat(" a".repeat(200)), "a" + (" a".repeat(37) + "\r\n" + " a".repeat(39) + "\r\n" + " a".repeat(39) + "\r\n"
                + " a".repeat(39) + "\r\n" + " a".repeat(39) + "\r\n" + " a".repeat(7)));
        String name = "n".repeat(40);
        writes(name + ": " + "w".repeat(34) + " x\r\n\r\n", name + ": " + "w".repeat(34) + " x\r\n" + PLAIN);
        writes(name + ": " + "w".repeat(35) + " x\r\n\r\n", name + ": " + "w".repeat(35) + "\r\n x\r\n" + PLAIN);
    }

    private static void somePieceAlready() {
        CHECKS.asked("(A first line has one only behind its : and blank.)");
        for (int size : new int[] {73, 74, 75, 76, 77, 90, 300}) {
            String word = "w".repeat(size);
            folds(word, word);
            folds(word + " x", word + (size + 5 > 78 ? "\r\n" : "") + " x");
            folds(word + " " + word + "   " + word, word + "\r\n " + word + "\r\n   " + word);
        }
        String name = "n".repeat(40);
        writes(name + ":" + "w".repeat(80) + " x\r\n\r\n", name + ": " + "w".repeat(80) + "\r\n x\r\n" + PLAIN);
    }

    private static void types() {
        CHECKS.asked("Then content-type: and blank, type, / , subtype (no blanks between these)");
        writes("content-type: (c) A (c) / (c) B (c)\r\n\r\n", "content-type: a/b\r\ncontent-transfer-encoding: base64\r\n\r\n");
        String sixty = "T".repeat(60);
        writes("content-type: " + sixty + "/" + sixty + "\r\n\r\n", "content-type: " + sixty.toLowerCase() + "/" + sixty.toLowerCase()
                + "\r\ncontent-transfer-encoding: base64\r\n\r\n");
    }

    private static void parameters() {
        CHECKS.asked("for each parameter ; , a line end, a blank, its name, =, its value as QUOTED (with \\ before \" and \\ alone)");
        writes("content-type: A / B (c) ; X=Y;z=\"a \\\"\\\\\\b\";e=\"\"\r\n\r\n",
                "content-type: a/b;\r\n x=\"Y\";\r\n z=\"a \\\"\\\\b\";\r\n e=\"\"\r\ncontent-transfer-encoding: base64\r\n\r\n");
        writes("content-type: a/b;boundary=c\r\n\r\n",
                "content-type: a/b;\r\n boundary=\"c\"\r\ncontent-transfer-encoding: base64\r\n\r\n");
        for (char c : Mail.BYTES) {
            if (Mail.inField(c)) {
                String written = c == '"' || c == '\\' ? "\\" + c : String.valueOf(c);
                writes("content-type: a/b;c=\"x\\" + c + "y\"\r\n\r\n",
                        "content-type: a/b;\r\n c=\"x" + written + "y\"\r\ncontent-transfer-encoding: base64\r\n\r\n");
            }
        }
        writes("content-type:a/b;a=1;b=2;c=3;d=4;e=5;f=6\r\n\r\n", "content-type: a/b;\r\n a=\"1\";\r\n b=\"2\";\r\n c=\"3\";\r\n d=\"4\";"
                + "\r\n e=\"5\";\r\n f=\"6\"\r\ncontent-transfer-encoding: base64\r\n\r\n");
    }

    private static void codes() {
        CHECKS.asked("Then, of leaves, content-transfer-encoding: base64. (Each with a line end.) An empty line. Leaves: CODED");
        writes("\r\nA", PLAIN + "QQ==");
        writes("\r\nAB", PLAIN + "QUI=");
        writes("\r\nABC", PLAIN + "QUJD");
        writes("\r\nABC\r\n", PLAIN + "QUJDDQo=");
        writes("content-transfer-encoding: binary\r\n\r\n\0\u00ff\u00fb\u00ef\u00be", PLAIN + "AP/7774=");
        writes("content-transfer-encoding: base64\r\n\r\nQU\r\nI=\r\n", PLAIN + "QUI=");
        writes("content-transfer-encoding: quoted-printable\r\n\r\n=41=\r\nB", PLAIN + "QUI=");
        StringBuilder all = new StringBuilder();
        for (int c = 0; c < 256; c++) {
            all.append(c == 10 || c == 13 ? "\r\n" : String.valueOf((char) c));
        }
        for (int from = 0; from < 3; from++) {
            writes("content-transfer-encoding: binary\r\n\r\n" + all.substring(from), PLAIN + coded(all.substring(from)));
        }
    }

    private static void seventySixSigns() {
        CHECKS.asked("76 signs a line, a line end between two");
        writes("\r\n", PLAIN);
        String line = "QUJD".repeat(19);
        writes("\r\n" + "ABC".repeat(18) + "AB", PLAIN + "QUJD".repeat(18) + "QUI=");
        writes("\r\n" + "ABC".repeat(19), PLAIN + line);
        writes("\r\n" + "ABC".repeat(19) + "A", PLAIN + line + "\r\nQQ==");
        writes("\r\n" + "ABC".repeat(38), PLAIN + line + "\r\n" + line);
        writes("\r\n" + "ABC".repeat(38) + "AB", PLAIN + line + "\r\n" + line + "\r\nQUI=");
    }

    private static String coded(String body) {
        return Base64.getMimeEncoder().encodeToString(body.getBytes(StandardCharsets.ISO_8859_1));
    }

    private static void parts() {
        CHECKS.asked("Multiparts: for each part --, boundary, line end, the part, line end; at last --, boundary, --.");
        writes("content-type: multipart/mixed; x=y; boundary=\"a b\"; z=w\r\nsubject: s\r\n\r\npre\r\n--a b\r\n"
                        + "content-type: multipart/x; boundary=c\r\n\r\n--c\r\nq: r\r\n\r\n1\r\n--c\r\n\r\n2\r\n--c--\r\n"
                        + "--a b\r\n\r\n3\r\n--a b--\r\nbehind",
                "subject: s\r\ncontent-type: multipart/mixed;\r\n x=\"y\";\r\n boundary=\"part0\";\r\n z=\"w\"\r\n\r\n"
                        + "--part0\r\ncontent-type: multipart/x;\r\n boundary=\"part1\"\r\n\r\n--part1\r\nq: r\r\n" + PLAIN
                        + "MQ==\r\n--part1\r\n" + PLAIN + "Mg==\r\n--part1--\r\n--part0\r\n" + PLAIN + "Mw==\r\n--part0--");
        String deep = PLAIN + "eA==";
        StringBuilder message = new StringBuilder("\r\nx");
        for (int k = 5; k >= 0; k--) {
            message.insert(0, "content-type: multipart/x; boundary=" + k + "\r\n\r\n--" + k + "\r\n");
            message.append("\r\n--" + k + "--");
            deep = "content-type: multipart/x;\r\n boundary=\"part" + k + "\"\r\n\r\n--part" + k + "\r\n" + deep + "\r\n--part" + k + "--";
        }
        writes(message.toString(), deep);
    }

    private static void numbersOfBoundaries() {
        CHECKS.asked("but of a multipart the boundary's value is part and the entity's number");
        String last = "content-type: multipart/x; boundary=c; part=d\r\n\r\n--c\r\n\r\n\r\n--c--";
        for (int number : new int[] {1, 8, 9, 10, 11, 18, 19, 20, 29, 30, 38}) {
            String part = "part" + number;
            writes("content-type: multipart/x; boundary=b\r\n\r\n" + "--b\r\n\r\n\r\n".repeat(number - 1) + "--b\r\n" + last + "\r\n--b--",
                    "content-type: multipart/x;\r\n boundary=\"part0\"\r\n\r\n" + ("--part0\r\n" + PLAIN + "\r\n").repeat(number - 1)
                            + "--part0\r\ncontent-type: multipart/x;\r\n boundary=\"" + part + "\";\r\n part=\"d\"\r\n\r\n--" + part + "\r\n"
                            + PLAIN + "\r\n--" + part + "--\r\n--part0--");
        }
    }

    private static void partsOfNoBytes() {
        CHECKS.asked("Multiparts: for each part --, boundary, line end, the part, line end; at last --, boundary, --.");
        writes("content-type: multipart/x; boundary=b\r\n\r\n--b\r\n\r\n\r\n--b--",
                "content-type: multipart/x;\r\n boundary=\"part0\"\r\n\r\n--part0\r\n" + PLAIN + "\r\n--part0--");
        writes("content-type: multipart/x; boundary=b\r\ncontent-transfer-encoding: binary\r\n\r\n--b\r\n\r\n\r\n--b\r\n\r\n\r\n--b--",
                "content-type: multipart/x;\r\n boundary=\"part0\"\r\n\r\n" + ("--part0\r\n" + PLAIN + "\r\n").repeat(2) + "--part0--");
    }

    private static void readsBack() {
        CHECKS.asked("which reads back to the same tree (if no line of it has more than 998 bytes)");
        MessageTree tree = CHECKS.stands("From: \"A \\\"B\" c <x.y@Z.q>\r\nSubject: " + "=?utf-8?q?=C3=A9?= word ".repeat(20)
                + "\r\nDate: Thu, 1 Jan 1970 00:00:10 +0130\r\ncontent-type: multipart/x; a=\"\\\"\\\\ \t\"; boundary=\" '()\"\r\n\r\n-- '()\r\n"
                + "content-transfer-encoding: quoted-printable\r\n\r\n=00=FF\r\n-- '()--", 2);
        String subject = Mail.subjectOf(tree);
        tree.write();
        tree.again();
        CHECKS.same("entities", tree.read(), 2);
        CHECKS.same("subject", Mail.subjectOf(tree), subject);
        CHECKS.same("from", Mail.addressOf(tree, 5, 0), "A \"B c|x.y|z.q");
        CHECKS.same("date", tree.date(0) + " " + tree.date(1), "-5390 90");
        CHECKS.same("parameter", Mail.parameterValue(tree, 0, 0), "\"\\ \t");
        CHECKS.same("boundary", Mail.parameterValue(tree, 0, 1), "part0");
        CHECKS.same("body", Mail.body(tree, 1), "\0\u00ff");
        CHECKS.same("code", tree.entity(1, 4), 3);
    }

    private static void longLines() {
        CHECKS.asked("which reads back to the same tree (if no line of it has more than 998 bytes)");
        for (int size : new int[] {994, 995, 996}) {
            String word = "w".repeat(size);
            MessageTree tree = CHECKS.stands("a:" + word + "\r\nb:" + word + "\r\n x\r\n\r\n", 1);
            CHECKS.same("size", tree.write(), 2 * (size + 5) + 4 + PLAIN.length());
            tree.again();
            CHECKS.same("read of a line of " + (size + 3), tree.read(), size + 3 > 998 ? -1 - 998 : 1);
        }
        // A piece on a line of its own begins with its blank, and no name stands before it.
        MessageTree second = CHECKS.stands("a:b\r\n " + "w".repeat(997) + "\r\n\r\n", 1);
        second.write();
        second.again();
        CHECKS.same("read of a second line of 998", second.read(), 1);
        CHECKS.same("its text", second.letter(0, 0, 1, -1), 1000);
    }

    /** The plain form of a leaf has a type and a code of its own, and they count among its 20 fields. */
    private static void twoFieldsMore() {
        CHECKS.asked("At most 20 fields an entity, 200 in all.");
        for (int count = 17; count <= 20; count++) {
            MessageTree tree = CHECKS.stands("x: y\r\n".repeat(count) + "\r\n", 1);
            tree.write();
            tree.again();
            int fault = count == 19 ? 19 * 6 + "content-type: text/plain\r\n".length() : 20 * 6;
            CHECKS.same("read of what is written of " + count + " fields", tree.read(), count <= 18 ? 1 : -1 - fault);
        }
        String nine = "content-type: multipart/x; boundary=b\r\n\r\n" + ("--b\r\n" + "x: y\r\n".repeat(18) + "\r\n\r\n").repeat(9);
        for (int count = 16; count <= 18; count++) {
            MessageTree tree = CHECKS.stands(nine + "--b\r\n" + "x: y\r\n".repeat(count) + "\r\n\r\n--b--", 11);
            int last = Mail.written(tree).lastIndexOf("content-transfer-encoding");
            tree.again();
            CHECKS.same("read of " + (183 + count) + " fields in all", tree.read(), count <= 17 ? 11 : -1 - last);
        }
    }

    private static void writeRefused() {
        CHECKS.asked("The message is WRITTEN: how many bytes. IllegalStateException: there is no message.");
        MessageTree tree = new MessageTree();
        CHECKS.refused("write of no message", IllegalStateException.class, tree::write);
        Mail.put(tree, "\r\n");
        CHECKS.refused("write of a tape alone", IllegalStateException.class, tree::write);
        tree.end(0);
        tree.read();
        CHECKS.refused("write behind a fault", IllegalStateException.class, tree::write);
        CHECKS.outside("nothing was written", () -> tree.out(0));
        CHECKS.same("nothing comes again", tree.again(), 0);
        Mail.put(tree, "\r\n");
        tree.read();
        CHECKS.same("write of a message", tree.write(), PLAIN.length());
        CHECKS.same("write a second time", tree.write(), PLAIN.length());
        tree.read();
        CHECKS.same("write of the message that stays behind a fault", tree.write(), PLAIN.length());
        MessageTree fed = new MessageTree();
        Mail.put(fed, "\r\nab");
        CHECKS.refused("write beside a tape", IllegalStateException.class, fed::write);
        CHECKS.same("the tape stays behind a refused write", fed.read(), 1);
        CHECKS.same("with its bytes", Mail.body(fed, 0), "ab");
        Mail.put(fed, "\r\ncd");
        CHECKS.same("write of the message, not of the tape", fed.write(), PLAIN.length() + 4);
        CHECKS.same("its last byte but one", fed.out(PLAIN.length() + 2), 'I');
        CHECKS.same("the tape stays behind a write", fed.read(), 1);
        CHECKS.same("with its bytes", Mail.body(fed, 0), "cd");
    }

    private static void outAnswers() {
        CHECKS.asked("Byte k of what was WRITTEN latest. IndexOutOfBoundsException.");
        MessageTree tree = CHECKS.stands("\r\nA", 1);
        CHECKS.outside("out before a write", () -> tree.out(0));
        int size = tree.write();
        CHECKS.same("out 0", tree.out(0), 'c');
        CHECKS.same("out's last", tree.out(size - 1), '=');
        CHECKS.outside("out behind the last", () -> tree.out(size));
        CHECKS.outside("out -1", () -> tree.out(-1));
        for (int n : Mail.NO_PLACES) {
            CHECKS.outside("out " + n, () -> tree.out(n));
        }
    }

    private static void outStays() {
        CHECKS.asked("Byte k of what was WRITTEN latest. IndexOutOfBoundsException.");
        MessageTree tree = CHECKS.stands("\r\nA", 1);
        int size = tree.write();
        Mail.put(tree, "a: b\r\n\r\nBBBBBB");
        CHECKS.same("what was written stays behind a feed", tree.out(0), 'c');
        tree.read();
        CHECKS.same("what was written stays behind a read", tree.out(0), 'c');
        CHECKS.outside("and has no more bytes", () -> tree.out(size));
        CHECKS.same("again, it comes as it was", tree.again(), size);
        CHECKS.same("what was written stays behind again", tree.out(size - 1), '=');
        CHECKS.same("a second write", tree.write(), size + 6 + 4);
        CHECKS.same("takes its place", tree.out(0), 'a');
        Mail.put(tree, "\r\n");
        tree.read();
        CHECKS.same("a shorter write", tree.write(), PLAIN.length());
        CHECKS.outside("ends where it ends", () -> tree.out(PLAIN.length()));
    }

    private static void again() {
        CHECKS.asked("What was WRITTEN latest comes on the tape, in place of what is there: how many bytes.");
        MessageTree tree = CHECKS.stands("subject: s\r\n\r\nbody", 1);
        int size = tree.write();
        CHECKS.same("size", size, ("subject: s\r\n" + PLAIN + "Ym9keQ==").length());
        tree.feed(1, 2, 3, 4, 5);
        CHECKS.same("again", tree.again(), size);
        CHECKS.same("feed behind it", tree.feed(0, 0, 0, 0, 0), size + 20);
        CHECKS.same("again in its place", tree.again(), size);
        CHECKS.refused("no more than that is there", IllegalArgumentException.class, () -> tree.end(size + 1));
        CHECKS.same("read", tree.read(), 1);
        CHECKS.same("body", Mail.body(tree, 0), "body");
        CHECKS.same("fields", tree.entity(0, 2), 3);
        CHECKS.same("again a third time", tree.again(), size);
        tree.end(0);
        CHECKS.same("and behind a cut", tree.again(), size);
        CHECKS.same("read again", tree.read(), 1);
        MessageTree none = new MessageTree();
        none.feed(0, 0, 0, 0, 0);
        CHECKS.same("when nothing was written", none.again(), 0);
        CHECKS.same("nothing is in place of what was there", none.feed(0, 0, 0, 0, 0), 20);
    }

    private static void againRefused() {
        CHECKS.asked("IllegalStateException: it is more than 8000.");
        // What is written of a field a with a text w and a body of n bytes: 5 + w, the plain head, and the body's signs.
        String body = "\r\n".repeat(2850);
        int rest = 8000 - PLAIN.length() - coded(body).length() - 5;
        for (int more : new int[] {-1, 0, 1, 2}) {
            MessageTree tree = new MessageTree();
            Mail.put(tree, "a:" + "w".repeat(rest + more) + "\r\n\r\n" + body);
            CHECKS.same("read", tree.read(), 1);
            CHECKS.same("written", tree.write(), 8000 + more);
            tree.feed(0x0d0a6162, 0, 0, 0, 0);
            tree.end(4);
            if (more <= 0) {
                CHECKS.same("again", tree.again(), 8000 + more);
                CHECKS.refused("the tape is full", IllegalStateException.class, () -> tree.feed(0, 0, 0, 0, 0));
                tree.end(8000 + more);
                CHECKS.same("read of it", tree.read(), 1);
                CHECKS.same("its body", tree.entity(0, 3), body.length());
            } else {
                CHECKS.refused("again", IllegalStateException.class, tree::again);
                CHECKS.same("the tape stays", tree.read(), 1);
                CHECKS.same("with its bytes", Mail.body(tree, 0), "ab");
                CHECKS.same("what was written stays", tree.out(8000), coded(body).charAt(coded(body).length() - more));
            }
        }
    }

    private static void againOfAllSizes() {
        CHECKS.asked("IllegalStateException: it is more than 8000.");
        String head = "a: " + "y".repeat(900) + "\r\nb: " + "y".repeat(37) + "\r\n\r\n";
        int body = (8000 - head.length() - PLAIN.length() + 2) / 4 * 3;
        for (int size = body - 300; size <= body; size += 7) {
            MessageTree tree = new MessageTree();
            Mail.put(tree, head + "\r\n".repeat(size / 2) + (size % 2 == 0 ? "" : "z"));
            tree.read();
            int written = tree.write();
            if (written <= 8000) {
                CHECKS.same("again of " + written, tree.again(), written);
            } else {
                CHECKS.refused("again of " + written, IllegalStateException.class, tree::again);
            }
        }
    }

    /** What is written of a full tape of short parts with many parameters and one long body is all there. */
    private static void dearest() {
        CHECKS.asked("The message is WRITTEN: how many bytes.");
        String type = "content-type:a/b;c=d;e=f;g=h;i=j;k=l;m=n\r\n";
        String head = "content-type:multipart/x;boundary=b\r\n\r\n" + ("--b\r\n" + type + "x:\r\ny:\r\nz:\r\n\r\n\r\n").repeat(38)
                + "--b\r\ncontent-transfer-encoding:binary\r\n\r\n";
        String body = "\u00ff".repeat(900).concat("\r\n").repeat(9).substring(0, 8000 - head.length() - 7);
        String part = "--part0\r\nx: \r\ny: \r\nz: \r\ncontent-type: a/b;\r\n c=\"d\";\r\n e=\"f\";\r\n g=\"h\";\r\n i=\"j\";\r\n k=\"l\";"
                + "\r\n m=\"n\"\r\ncontent-transfer-encoding: base64\r\n\r\n\r\n";
        writes(head + body + "\r\n--b--", "content-type: multipart/x;\r\n boundary=\"part0\"\r\n\r\n" + part.repeat(38)
                + "--part0\r\n" + PLAIN + coded(body) + "\r\n--part0--");
        String full = "\u00ff".repeat(998).concat("\r\n").repeat(8).substring(0, 8000 - 37);
        writes("content-transfer-encoding: binary\r\n\r\n" + full, PLAIN + coded(full));
    }
}
