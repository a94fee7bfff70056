/** Promises 1 to 4: a new object, feed, end, read; and which fault of the bytes counts. */
public final class TapeTest {
    private static final Checks CHECKS = new Checks("TapeTest");

    public static void main(String[] args) {
        newObject();
        feeding();
        cutting();
        reading();
        lineEnds();
        longLines();
        CHECKS.finish();
    }

    private static void newObject() {
        CHECKS.same("NONE", MessageTree.NONE, -1);
        MessageTree tree = new MessageTree();
        CHECKS.outside("entity of no message", () -> tree.entity(0, 0));
        CHECKS.outside("part of no message", () -> tree.part(0, 0));
        CHECKS.outside("octet of no message", () -> tree.octet(0, 0));
        CHECKS.outside("kind of no message", () -> tree.kind(0, 0));
        CHECKS.outside("letter of no message", () -> tree.letter(0, 0, 0, -1));
        CHECKS.outside("type of no message", () -> tree.type(0, 0, -1));
        CHECKS.outside("parameter of no message", () -> tree.parameter(0, 0, 0, -1));
        CHECKS.same("subject's size of no message", tree.subject(-1), 0);
        CHECKS.outside("subject of no message", () -> tree.subject(0));
        CHECKS.same("date of no message", tree.date(0), 0);
        CHECKS.same("zone of no message", tree.date(1), 0);
        CHECKS.outside("date's third of no message", () -> tree.date(2));
        CHECKS.same("addresses of no message", tree.addresses(5), 0);
        CHECKS.outside("address of no message", () -> tree.address(6, 0, 0, -1));
        CHECKS.refused("write of no message", IllegalStateException.class, tree::write);
        CHECKS.outside("out when nothing was written", () -> tree.out(0));
        CHECKS.same("again when nothing was written", tree.again(), 0);
        CHECKS.same("read of an empty tape", tree.read(), -1);
    }

    private static void feeding() {
        MessageTree tree = new MessageTree();
        CHECKS.same("feed", tree.feed(0x613a620d, 0x0a0d0a41, 0x42434445, 0x7f010203, 0x04050600), 20);
        CHECKS.same("the last byte is 0", tree.read(), -1 - 19);
        CHECKS.same("feed", tree.feed(0x613a620d, 0x0a0d0a41, 0x42434445, 0x7f010203, 0x040506ff), 20);
        CHECKS.same("the last byte is 255", tree.read(), -1 - 19);
        CHECKS.same("feed", tree.feed(0x613a620d, 0x0a0d0a41, 0x42434445, -1, 0x80808080), 20);
        tree.end(12);
        CHECKS.same("read of what was not cut off", tree.read(), 1);
        CHECKS.same("body", Mail.body(tree, 0), "ABCDE");
        for (int k = 1; k <= 400; k++) {
            CHECKS.same("feed", tree.feed(1, 2, 3, 4, 5), 20 * k);
        }
        CHECKS.refused("feed of a full tape", IllegalStateException.class, () -> tree.feed(0, 0, 0, 0, 0));
        tree.end(7981);
        CHECKS.refused("feed of 7981 bytes", IllegalStateException.class, () -> tree.feed(0, 0, 0, 0, 0));
        tree.end(7980);
        CHECKS.same("feed of 7980 bytes", tree.feed(0, 0, 0, 0, 0), 8000);
    }

    private static void cutting() {
        MessageTree tree = new MessageTree();
        CHECKS.refused("end below 0", IllegalArgumentException.class, () -> tree.end(-1));
        CHECKS.refused("end behind an empty tape", IllegalArgumentException.class, () -> tree.end(1));
        tree.feed(0, 0, 0, 0, 0);
        tree.end(20);
        CHECKS.refused("end behind the tape", IllegalArgumentException.class, () -> tree.end(21));
        CHECKS.refused("end far below 0", IllegalArgumentException.class, () -> tree.end(Integer.MIN_VALUE));
        CHECKS.refused("end far behind", IllegalArgumentException.class, () -> tree.end(Integer.MAX_VALUE));
        tree.end(3);
        CHECKS.same("feed behind a cut", tree.feed(0, 0, 0, 0, 0), 23);
        tree.end(0);
        CHECKS.same("feed behind nothing", tree.feed(0, 0, 0, 0, 0), 20);
    }

    private static void reading() {
        MessageTree tree = CHECKS.stands("a: b\r\nsubject: old\r\n\r\nbody", 1);
        CHECKS.same("the tape is empty behind a read", tree.feed(0, 0, 0, 0, 0), 20);
        CHECKS.same("fault", tree.read(), -1);
        CHECKS.same("the tape is empty behind a fault", tree.feed(0, 0, 0, 0, 0), 20);
        CHECKS.same("the message stays", Mail.body(tree, 0), "body");
        Mail.put(tree, "subject: new\r\nfrom: a@b\r\ncontent-type: x/y; q=r\r\nbad line\r\n\r\n");
        CHECKS.same("fault behind fields", tree.read(), -1 - 52);
        CHECKS.same("the subject stays", Mail.subjectOf(tree), "old");
        CHECKS.same("the type stays", Mail.typeOf(tree, 0), "text/plain");
        CHECKS.same("no addresses came", tree.addresses(5), 0);
        Mail.put(tree, "\r\n");
        CHECKS.same("read of an empty line", tree.read(), 1);
        CHECKS.same("nothing of the old message", Mail.subjectOf(tree) + tree.entity(0, 2), "0");
        CHECKS.same("nothing of the old body", tree.entity(0, 3), 0);
        MessageTree full = new MessageTree();
        Mail.put(full, "\r\n" + "x\r\n".repeat(2666));
        CHECKS.same("read of 8000 bytes", full.read(), 1);
        CHECKS.same("body of 7998 bytes", full.entity(0, 3), 7998);
        CHECKS.same("its last byte", full.octet(0, 7997), 10);
    }

    private static void lineEnds() {
        CHECKS.faultAtMark("a: b↑\n\r\n");
        CHECKS.faultAtMark("a: b↑\r\r\n\r\n");
        CHECKS.faultAtMark("a: b\r\n\r\nbody↑\r");
        CHECKS.faultAtMark("a: b\r\n\r\nbody\r\n↑\n");
        CHECKS.faultAtMark("↑\n");
        CHECKS.faultAtMark("↑\r");
        CHECKS.faultAtMark("content-transfer-encoding: binary\r\n\r\na↑\rb");
        // These faults count before all others, wherever they are.
        CHECKS.faultAtMark(" wrong name\r\n\r\n\0↑\n");
        CHECKS.faultAtMark("↑\n\r");
    }

    private static void longLines() {
        String most = "x".repeat(998);
        CHECKS.stands("\r\n" + most, 1);
        CHECKS.stands("\r\n" + most + "\r\n" + most + "\r\n", 1);
        CHECKS.faultAtMark("\r\n" + most + "↑x");
        CHECKS.faultAtMark("\r\n" + most + "\r\n" + most + "↑xyz\r\n");
        CHECKS.faultAtMark(" a:" + "y".repeat(995) + "↑y\r\n\r\n");
        CHECKS.stands("a:" + "y".repeat(996) + "\r\n\r\n", 1);
        CHECKS.faultAtMark("\r\n" + most + "↑\r");
    }
}
