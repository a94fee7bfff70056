/** Terms 1 and promises 1 to 4: the tape and its line ends, a new object, feed, end, read. */
public final class TapeTest {
    private static final Checks CHECKS = new Checks("TapeTest");
    private static final String FULL = "\r\n" + "x\r\n".repeat(2666);
    private static final String HEAD = "content-type: multipart/x; boundary=b\r\n\r\n";

    public static void main(String[] args) {
        newObject();
        feedTells();
        feedsHighestFirst();
        feedRefused();
        cut();
        nothingBehindTheCut();
        cutRefused();
        readUsesUp();
        emptyTape();
        placesFromZero();
        messageStays();
        loneLineEnds();
        longLines();
        firstOneCounts();
        beforeAllElse();
        CHECKS.finish();
    }

    private static void newObject() {
        CHECKS.asked("No message, an empty tape, nothing written.");
        CHECKS.same("NONE", MessageTree.NONE, -1);
        MessageTree tree = new MessageTree();
        CHECKS.outside("entity of no message", () -> tree.entity(0, 0));
        CHECKS.outside("part of no message", () -> tree.part(0, 0));
        CHECKS.outside("octet of no message", () -> tree.octet(0, 0));
        CHECKS.outside("kind of no message", () -> tree.kind(0, 0));
        CHECKS.outside("letter of no message", () -> tree.letter(0, 0, 0, -1));
        CHECKS.outside("type of no message", () -> tree.type(0, 0, -1));
        CHECKS.outside("parameter of no message", () -> tree.parameter(0, 0, 0, -1));
        CHECKS.same("subject's size of no message", tree.subject(-1), 0);
        CHECKS.outside("subject of no message", () -> tree.subject(0));
        CHECKS.same("date of no message", tree.date(0), 0);
        CHECKS.same("zone of no message", tree.date(1), 0);
        CHECKS.outside("date's third of no message", () -> tree.date(2));
        CHECKS.same("from of no message", tree.addresses(5), 0);
        CHECKS.same("to of no message", tree.addresses(6), 0);
        CHECKS.outside("address of no message", () -> tree.address(6, 0, 0, -1));
        CHECKS.refused("write of no message", IllegalStateException.class, tree::write);
        CHECKS.outside("out when nothing was written", () -> tree.out(0));
        CHECKS.refused("cut of an empty tape", IllegalArgumentException.class, () -> tree.end(1));
        tree.end(0);
        CHECKS.same("again when nothing was written", tree.again(), 0);
        CHECKS.same("read of an empty tape", tree.read(), -1);
        CHECKS.same("first feed", new MessageTree().feed(0, 0, 0, 0, 0), 20);
    }

    private static void feedTells() {
        CHECKS.asked("Twenty bytes come behind the tape, each number's highest one first: how many it has.");
        MessageTree tree = new MessageTree();
        for (int k = 1; k <= 400; k++) {
            CHECKS.same("feed", tree.feed(1, 2, 3, 4, 5), 20 * k);
        }
    }

    private static void feedsHighestFirst() {
        CHECKS.asked("Twenty bytes come behind the tape, each number's highest one first: how many it has.");
        MessageTree tree = new MessageTree();
        tree.feed(0x0d0a4142, 0x43444546, 0x4748494a, 0x4b4c4d4e, 0x4f505152);
        tree.feed(0x61626364, 0x65666768, 0x696a6b6c, 0x6d6e6f70, 0x71727374);
        CHECKS.same("read", tree.read(), 1);
        CHECKS.same("body", Mail.body(tree, 0), "ABCDEFGHIJKLMNOPQRabcdefghijklmnopqrst");
        CHECKS.same("feed", tree.feed(0x613a620d, 0x0a0d0a41, 0x42434445, 0x7f010203, 0x04050600), 20);
        CHECKS.same("the last byte is 0", tree.read(), -1 - 19);
        CHECKS.same("feed", tree.feed(0x613a620d, 0x0a0d0a41, 0x42434445, 0x7f010203, 0x040506ff), 20);
        CHECKS.same("the last byte is 255", tree.read(), -1 - 19);
        CHECKS.same("feed", tree.feed(0x613a620d, 0x0a0d0a41, 0x42434445, -1, 0x80808080), 20);
        tree.end(12);
        CHECKS.same("read of what was not cut off", tree.read(), 1);
        CHECKS.same("body", Mail.body(tree, 0), "ABCDE");
        MessageTree binary = CHECKS.stands("content-transfer-encoding:binary\r\n\r\n\u00ff\u0080\u007f\0\u00fe\u00ff\u00ff\u00ff", 1);
        CHECKS.same("bytes above 127", Mail.body(binary, 0), "\u00ff\u0080\u007f\0\u00fe\u00ff\u00ff\u00ff");
    }

    private static void feedRefused() {
        CHECKS.asked("IllegalStateException when there would be more than 8000.");
        for (int size : new int[] {7979, 7980, 7981, 7999, 8000}) {
            MessageTree tree = new MessageTree();
            Mail.put(tree, FULL);
            tree.end(size);
            if (size <= 7980) {
                CHECKS.same("feed behind " + size, tree.feed(1, 2, 3, 4, 5), size + 20);
            } else {
                CHECKS.refused("feed behind " + size, IllegalStateException.class, () -> tree.feed(1, 2, 3, 4, 5));
                CHECKS.refused("no byte came", IllegalArgumentException.class, () -> tree.end(size + 1));
                tree.end(size);
            }
        }
        CHECKS.asked("THE TAPE has at most 8000 bytes; what reads it uses it up.");
        MessageTree full = new MessageTree();
        Mail.put(full, FULL);
        CHECKS.refused("feed of a full tape", IllegalStateException.class, () -> full.feed(-1, -1, -1, -1, -1));
        CHECKS.same("read of 8000 bytes", full.read(), 1);
        CHECKS.same("body of 7998 bytes", full.entity(0, 3), 7998);
        CHECKS.same("its first byte", full.octet(0, 0), 'x');
        CHECKS.same("its last byte", full.octet(0, 7997), 10);
    }

    private static void cut() {
        CHECKS.asked("The tape is cut behind its first n bytes.");
        MessageTree tree = new MessageTree();
        tree.feed(0x0d0a4142, 0x43444546, 0x4748494a, 0x4b4c4d4e, 0x4f505152);
        tree.end(20);
        tree.end(19);
        tree.end(5);
        CHECKS.same("feed behind a cut", tree.feed(0x61626364, 0x65666768, 0x696a6b6c, 0x6d6e6f70, 0x71727374), 25);
        tree.end(8);
        CHECKS.same("read", tree.read(), 1);
        CHECKS.same("body", Mail.body(tree, 0), "ABCabc");
        tree.feed(0x0d0a4142, 0x43444546, 0x4748494a, 0x4b4c4d4e, 0x4f505152);
        tree.end(0);
        CHECKS.same("read of a tape that is cut to nothing", tree.read(), -1);
        CHECKS.same("feed behind nothing", tree.feed(0, 0, 0, 0, 0), 20);
    }

    private static void nothingBehindTheCut() {
        CHECKS.asked("The tape is cut behind its first n bytes.");
        for (String message : new String[] {"ab: c\r\n d\r\n\r\nx\r\ny", "to: a@b\r\n (c)\r\n\r\n",
            "content-transfer-encoding: base64\r\n\r\nQUJDQQ==\r\n", "content-transfer-encoding: quoted-printable\r\n\r\na=41=\r\nb",
            HEAD + "--b\r\n\r\nx\r\n--b\r\n\r\n--b--\r\n"}) {
            for (int n = 0; n <= message.length(); n++) {
                MessageTree fresh = new MessageTree();
                Mail.put(fresh, message.substring(0, n));
                MessageTree cut = new MessageTree();
                Mail.put(cut, message);
                cut.end(n);
                CHECKS.same("read of " + Mail.shown(message) + " cut behind " + n, cut.read(), fresh.read());
            }
        }
        MessageTree within = new MessageTree();
        within.feed(0x0d0a610d, 0x0a626364, 0, 0, 0);
        within.end(4);
        CHECKS.same("read of a line end that is cut", within.read(), -1 - 3);
    }

    private static void cutRefused() {
        CHECKS.asked("IllegalArgumentException when n is below 0, or more than it has.");
        MessageTree tree = new MessageTree();
        for (int size = 0; size <= 40; size += 20) {
            for (int n : new int[] {-1, Integer.MIN_VALUE, size + 1, 8000, 8001, Integer.MAX_VALUE}) {
                CHECKS.refused("end(" + n + ") of " + size, IllegalArgumentException.class, () -> tree.end(n));
            }
            tree.end(size);
            CHECKS.same("feed behind refused cuts", tree.feed(0, 0, 0, 0, 0), size + 20);
        }
        MessageTree full = new MessageTree();
        Mail.put(full, FULL);
        CHECKS.refused("end(8001)", IllegalArgumentException.class, () -> full.end(8001));
        full.end(8000);
    }

    private static void readUsesUp() {
        CHECKS.asked("The tape is read as a MESSAGE, and is empty then");
        for (String message : new String[] {"\r\nbody", "no field", "\r\n\n", HEAD + "--b\r\n\r\n", "date: x\r\n\r\n"}) {
            MessageTree tree = new MessageTree();
            Mail.put(tree, message);
            tree.read();
            CHECKS.refused("a cut behind " + message, IllegalArgumentException.class, () -> tree.end(1));
            CHECKS.same("a second read behind " + message, tree.read(), -1);
            CHECKS.same("a feed behind " + message, tree.feed(0, 0, 0, 0, 0), 20);
        }
    }

    private static void emptyTape() {
        CHECKS.asked("b, when the entity ends before its empty line is whole");
        CHECKS.faultAtMark("↑");
        CHECKS.stands("\r\n", 1);
    }

    private static void placesFromZero() {
        CHECKS.asked("PLACES are counted from 0.");
        CHECKS.faultAtMark("↑\0");
        CHECKS.faultAtMark("a↑\0");
        CHECKS.faultAtMark("\r\n" + "x\r\n".repeat(2665) + "xx↑\0");
        CHECKS.faultAtMark("a: b\r\n" + " c\r\n".repeat(1998) + "  ↑");
    }

    private static void messageStays() {
        CHECKS.asked("-1 less the place of its FAULT: the message that there was stays.");
        MessageTree tree = CHECKS.stands("a: b\r\nsubject: old\r\n\r\nbody", 1);
        tree.feed(0, 0, 0, 0, 0);
        CHECKS.same("fault", tree.read(), -1);
        CHECKS.same("the message stays", Mail.body(tree, 0), "body");
        Mail.put(tree, "subject: new\r\nfrom: a@b\r\ncontent-type: x/y; q=r\r\nbad line\r\n\r\n");
        CHECKS.same("fault behind fields", tree.read(), -1 - 52);
        CHECKS.same("the subject stays", Mail.subjectOf(tree), "old");
        CHECKS.same("the type stays", Mail.typeOf(tree, 0), "text/plain");
        CHECKS.same("no addresses came", tree.addresses(5), 0);
        Mail.put(tree, "\r\n");
        CHECKS.same("read of an empty line", tree.read(), 1);
        CHECKS.same("nothing of the old message", Mail.subjectOf(tree) + tree.entity(0, 2), "0");
        CHECKS.same("nothing of the old body", tree.entity(0, 3), 0);
        MessageTree none = new MessageTree();
        CHECKS.same("fault without a message", none.read(), -1);
        CHECKS.outside("there is still none", () -> none.entity(0, 0));
        CHECKS.refused("and none to write", IllegalStateException.class, none::write);
    }

    private static void loneLineEnds() {
        CHECKS.asked("a byte 13 without 10 behind it, or 10 without 13 before it, is a FAULT at it");
        CHECKS.faultAtMark("↑\n");
        CHECKS.faultAtMark("↑\r");
        CHECKS.faultAtMark("↑\n\r");
        CHECKS.faultAtMark("↑\r\r\n");
        CHECKS.faultAtMark("\r\n↑\n");
        CHECKS.faultAtMark("\r\n↑\r");
        CHECKS.faultAtMark("\r\n↑\n\r\n");
        CHECKS.faultAtMark("a: b↑\n\r\n");
        CHECKS.faultAtMark("a: b↑\r\r\n\r\n");
        CHECKS.faultAtMark("a: b↑\r c\r\n\r\n");
        CHECKS.faultAtMark("a: b\r\n\r\nbody↑\r");
        CHECKS.faultAtMark("a: b\r\n\r\nbody\r\n↑\n");
        CHECKS.faultAtMark("content-transfer-encoding: binary\r\n\r\na↑\rb");
        CHECKS.faultAtMark("content-transfer-encoding: binary\r\n\r\na↑\nb");
        CHECKS.faultAtMark("content-transfer-encoding: base64\r\n\r\nQUJD↑\n");
        CHECKS.faultAtMark("\r\n" + "x\r\n".repeat(2665) + "xx↑\r");
        CHECKS.asked("A LINE END is 13 10.");
        CHECKS.stands("\r\n", 1);
        CHECKS.stands("\r\n\r\n", 1);
        CHECKS.stands("a:\r\n\r\n\r\n\r\n", 1);
    }

    private static void longLines() {
        CHECKS.asked("so is the 999th byte of a line (its line end not counted)");
        String most = "x".repeat(998);
        CHECKS.stands("\r\n" + most, 1);
        CHECKS.stands("\r\n" + most + "\r\n", 1);
        CHECKS.stands("\r\n" + (most + "\r\n").repeat(7), 1);
        CHECKS.stands("a:" + "y".repeat(996) + "\r\n\r\n", 1);
        CHECKS.stands("a:\r\n" + (" " + "y".repeat(997) + "\r\n").repeat(7) + "\r\n", 1);
        CHECKS.faultAtMark("\r\n" + most + "↑x");
        CHECKS.faultAtMark("\r\n" + most + "↑x\r\n");
        CHECKS.faultAtMark("\r\n" + most + "↑xy\r\n");
        CHECKS.faultAtMark("\r\n" + most + "\r\n" + most + "↑xyz\r\n");
        CHECKS.faultAtMark("\r\n" + (most + "\r\n").repeat(6) + most + "↑x");
        CHECKS.faultAtMark("a:" + "y".repeat(996) + "↑y\r\n\r\n");
        CHECKS.faultAtMark("a:\r\n " + "y".repeat(997) + "↑y\r\n\r\n");
        CHECKS.faultAtMark("\r\n" + most + "↑\r");
        CHECKS.faultAtMark("\r\n" + most + "↑\n");
        CHECKS.faultAtMark("\r\n" + most + "↑\r\r\n");
    }

    private static void firstOneCounts() {
        CHECKS.asked("The first one counts; else what follows, in the order told, and within it from the left.");
        String most = "x".repeat(998);
        CHECKS.faultAtMark("\r\na↑\nb\rc\n" + most + "x");
        CHECKS.faultAtMark("\r\na↑\rb\nc");
        CHECKS.faultAtMark("\r\n" + most + "↑xx\n\r");
        CHECKS.faultAtMark("\r\n" + "x".repeat(997) + "↑\nxx");
    }

    private static void beforeAllElse() {
        CHECKS.asked("FIRST OF ALL, over the whole tape");
        CHECKS.faultAtMark(" wrong name\r\n\r\n\0↑\n");
        CHECKS.faultAtMark("\0↑\r");
        CHECKS.faultAtMark("date: wrong\r\n\r\n\0\r\n↑\n");
        CHECKS.faultAtMark(" a:" + "y".repeat(995) + "↑y\r\n\r\n");
        CHECKS.faultAtMark("\0\r\n\r\n" + "x".repeat(998) + "↑x");
        CHECKS.faultAtMark(HEAD + "before↑\n\r\n--b\r\n\r\n\r\n--b--");
        CHECKS.faultAtMark(HEAD + "--b\r\n\r\n\r\n--b--\r\nbehind↑\r");
        CHECKS.faultAtMark(HEAD + "--b\r\n\r\n\r\n--b--\r\n" + "x".repeat(998) + "↑x");
        CHECKS.faultAtMark(HEAD + "--b--\r\n" + "x".repeat(998) + "↑x");
    }
}
