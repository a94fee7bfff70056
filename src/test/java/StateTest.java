import java.util.ArrayList;
import java.util.List;

/** Promises 4 and 5 to 15 over several messages in one object, and a message with all that it may have at once. */
public final class StateTest {
    private static final Checks CHECKS = new Checks("StateTest");
    private static final String RICH = "Subject: =?utf-8?b?4oKs?= rich\r\nDate: Fri, 21 Nov 1997 09:55:06 -0600\r\n"
            + "From: A <b@c>, d@e\r\nTo: \"f\"@g\r\nX: y\r\nContent-Type: multipart/m; boundary=q; n=v\r\n"
            + "Content-Transfer-Encoding: 8bit\r\n\r\n--q\r\ncontent-type: multipart/k; boundary=w\r\n\r\n--w\r\n"
            + "content-transfer-encoding: base64\r\n\r\nQUI=\r\n--w--\r\n--q\r\nz: 1\r\ncontent-transfer-encoding: binary\r\n\r\n\0\1\r\n--q--";
    private static final String HEAD = "content-type: multipart/x; boundary=b\r\n\r\n";

    public static void main(String[] args) {
        faultsLeaveTheMessage();
        refusedCallsLeaveAll();
        nothingOfOlderMessages();
        everyTwoMessages();
        allAtOnce();
        fullTapesAgainAndAgain();
        fullTapeOfOneAddress();
        limitsAreOfOneMessage();
        CHECKS.finish();
    }

    /** All that an object tells of its message, without its tape and what it wrote. */
    private static String told(MessageTree tree) {
        StringBuilder text = new StringBuilder(Mail.subjectOf(tree) + "|" + tree.date(0) + "|" + tree.date(1));
        for (int kind = 5; kind <= 6; kind++) {
            for (int n = 0; n < tree.addresses(kind); n++) {
                text.append("\n" + kind + " " + Mail.addressOf(tree, kind, n));
            }
        }
        for (int i = 0; i < entities(tree); i++) {
            text.append("\n" + i + " " + Mail.typeOf(tree, i) + " " + Mail.body(tree, i));
            for (int what = 0; what < 7; what++) {
                text.append(" " + tree.entity(i, what));
            }
            for (int k = 0; k < tree.entity(i, 1); k++) {
                text.append(" part " + tree.part(i, k));
            }
            for (int f = 0; f < tree.entity(i, 2); f++) {
                text.append(" field " + tree.kind(i, f) + Mail.fieldName(tree, i, f) + ":" + Mail.fieldText(tree, i, f));
            }
            for (int n = 0; n < tree.entity(i, 5); n++) {
                text.append(" ; " + Mail.parameterName(tree, i, n) + "=" + Mail.parameterValue(tree, i, n));
            }
        }
        return text.toString();
    }

    private static int entities(MessageTree tree) {
        int count = 0;
        while (hasEntity(tree, count)) {
            count++;
        }
        return count;
    }

    private static boolean hasEntity(MessageTree tree, int i) {
        try {
            tree.entity(i, 0);
            return true;
        } catch (IndexOutOfBoundsException none) {
            return false;
        }
    }

    private static String toldOfNew(String message) {
        MessageTree tree = new MessageTree();
        Mail.put(tree, message);
        tree.read();
        return told(tree);
    }

    private static void faultsLeaveTheMessage() {
        CHECKS.asked("-1 less the place of its FAULT: the message that there was stays.");
        String[] wrong = {"", "\n", "x", "x: y\r\n", "subject: new\r\nsubject: newer\r\n\r\n", "content-type: a\r\n\r\n",
            "subject: new\r\ncontent-type: a/b; c=d; c=e\r\n\r\n", "content-transfer-encoding: base64\r\n\r\nQQ",
            "content-transfer-encoding: quoted-printable\r\n\r\na=4", "to: n@m, o@p, q\r\n\r\n", "from: n@m, o@p, q@r s\r\n\r\n",
            "subject: new\r\ndate: 1 Jan 2000 00:00 +0100\r\nfrom: n@m\r\nto: o@p\r\ncontent-type: t/u; v=w\r\n\r\nbody\0",
            HEAD + "--b\r\nx: y\r\n\r\nbody\r\n--b\r\n\r\nmore\r\n--b", HEAD + "--b\r\nx: y\r\n\r\nbody\r\n--b\r\n bad\r\n\r\n--b--",
            HEAD + "--b\r\n\r\nx\r\n".repeat(40) + "--b--"};
        for (String message : wrong) {
            MessageTree tree = CHECKS.stands(RICH, 4);
            Mail.put(tree, message);
            CHECKS.same("a fault in " + Mail.shown(message), tree.read() < 0 ? 1 : 0, 1);
            CHECKS.same("the message behind " + Mail.shown(message), told(tree), toldOfNew(RICH));
            MessageTree none = new MessageTree();
            Mail.put(none, message);
            none.read();
            CHECKS.same("no message behind " + Mail.shown(message), told(none), "|0|0");
        }
    }

    private static void refusedCallsLeaveAll() {
        CHECKS.asked("The tape is cut behind its first n bytes. IllegalArgumentException when n is below 0, or more than it has.");
        MessageTree tree = CHECKS.stands(RICH, 4);
        int size = tree.write();
        Mail.put(tree, "\r\nnext");
        CHECKS.refused("end", IllegalArgumentException.class, () -> tree.end(7));
        CHECKS.refused("end", IllegalArgumentException.class, () -> tree.end(-1));
        CHECKS.outside("entity", () -> tree.entity(4, 0));
        CHECKS.outside("part", () -> tree.part(4, 0));
        CHECKS.outside("octet", () -> tree.octet(0, 0));
        CHECKS.outside("kind", () -> tree.kind(0, 7));
        CHECKS.outside("letter", () -> tree.letter(0, 0, 2, 0));
        CHECKS.outside("type", () -> tree.type(0, 2, 0));
        CHECKS.outside("parameter", () -> tree.parameter(0, 2, 0, 0));
        CHECKS.outside("subject", () -> tree.subject(100));
        CHECKS.outside("date", () -> tree.date(2));
        CHECKS.refused("addresses", IllegalArgumentException.class, () -> tree.addresses(4));
        CHECKS.outside("address", () -> tree.address(5, 2, 0, 0));
        CHECKS.outside("out", () -> tree.out(size));
        CHECKS.same("the message stays", told(tree), toldOfNew(RICH));
        CHECKS.same("the tape stays", tree.read(), 1);
        CHECKS.same("with its bytes", Mail.body(tree, 0), "next");
        CHECKS.same("what was written stays", tree.again(), size);
        CHECKS.same("and is read", tree.read(), 4);
    }

    private static void nothingOfOlderMessages() {
        CHECKS.asked("0 without a message, or a date.");
        MessageTree tree = CHECKS.stands(RICH, 4);
        for (int k = 0; k < 4; k++) {
            Mail.put(tree, k % 2 == 0 ? "\r\n" : "x: y\r\n\r\nbody");
            CHECKS.same("read", tree.read(), 1);
            CHECKS.same("no date", tree.date(0), 0);
            CHECKS.same("no zone", tree.date(1), 0);
            CHECKS.same("no subject", tree.subject(-1), 0);
            CHECKS.same("no from", tree.addresses(5), 0);
            CHECKS.same("no to", tree.addresses(6), 0);
            CHECKS.same("no multipart", tree.entity(0, 6), 0);
            CHECKS.same("no parts", tree.entity(0, 1), 0);
            CHECKS.same("no first part", tree.part(0, 0), -1);
            CHECKS.same("no parameters", tree.entity(0, 5), 0);
            CHECKS.same("no code but 7bit", tree.entity(0, 4), 0);
            CHECKS.same("part of nothing", tree.entity(0, 0), -1);
            CHECKS.same("type", Mail.typeOf(tree, 0), "text/plain");
            CHECKS.outside("no entity 1", () -> tree.entity(1, 0));
        }
    }

    /** Whatever was read before, right or wrong, a message tells the same as in a new object. */
    private static void everyTwoMessages() {
        CHECKS.asked("The tape is read as a MESSAGE, and is empty then: how many ENTITIES it has");
        List<String> messages = new ArrayList<>(List.of(RICH, "\r\n", "a: b\r\n\r\n" + "c".repeat(50), "x: y\r\n",
                "content-type: a/b; c=\"d\"; e=f\r\n\r\n", "content-transfer-encoding: base64\r\n\r\nQQ==",
                "content-transfer-encoding: base64\r\n\r\nQUJDQ", "content-transfer-encoding: 8bit\r\n\r\n\u0080",
                "from: a <b@c>, d@e\r\n\r\n", "to: a <b@c>, d@e\r\n\r\n", "subject: =?utf-8?b?QQ=?= =?utf-8?b?QQ==?=\r\n\r\n",
                "date: 1 Jan 2000 00:00 +0130\r\n\r\n", "date: 1 Jan 2000 00:00 +0130 x\r\n\r\n", HEAD + "--b\r\n\r\nx\r\n--b--",
                HEAD + "--b\r\n" + HEAD.replace("=b", "=c") + "--c\r\n\r\ny\r\n--b--", HEAD + "--b\r\n\r\nx\r\n--b"));
        for (String one : messages) {
            for (String two : messages) {
                MessageTree tree = new MessageTree();
                String due = told(tree);
                for (String message : new String[] {one, two, two, one, two}) {
                    MessageTree fresh = new MessageTree();
                    Mail.put(fresh, message);
                    Mail.put(tree, message);
                    int answer = fresh.read();
                    CHECKS.same("read of " + Mail.shown(message) + " behind others", tree.read(), answer);
                    due = answer >= 0 ? told(fresh) : due;
                    CHECKS.same("what is told of " + Mail.shown(message) + " behind others", told(tree), due);
                }
            }
        }
    }

    private static void allAtOnce() {
        CHECKS.asked("At most 20 fields an entity, 200 in all.");
        String ten = "N0 <l0@d0>,N1 <l1@d1>,N2 <l2@d2>,N3 <l3@d3>,N4 <l4@d4>,N5 <l5@d5>,N6 <l6@d6>,N7 <l7@d7>,N8 <l8@d8>,N9 <l9@d9>";
        StringBuilder message = new StringBuilder("from:" + ten + "\r\nto:" + ten.replace("N", "M").replace("l", "k").replace("d", "c")
                + "\r\nsubject:whole\r\ndate:1 Jan 1970 00:01 -0001\r\ncontent-type:multipart/m0;boundary=b;a=0;b=0;c=0;d=0;e=0\r\n\r\n");
        for (int i = 1; i < 40; i++) {
            message.append("--b\r\ncontent-type:t" + i + "/s" + i);
            for (int n = 0; n < 6; n++) {
                message.append(";" + (char) ('a' + n) + "=" + i + "-" + n);
            }
            message.append("\r\n" + ("f:" + i + "\r\n").repeat(4) + "\r\n<" + i + ">\r\n");
        }
        MessageTree tree = CHECKS.stands(message + "--b--", 40);
        for (int n = 0; n < 10; n++) {
            CHECKS.same("from " + n, Mail.addressOf(tree, 5, n), "N" + n + "|l" + n + "|d" + n);
            CHECKS.same("to " + n, Mail.addressOf(tree, 6, n), "M" + n + "|k" + n + "|c" + n);
        }
        CHECKS.same("subject and date", Mail.subjectOf(tree) + tree.date(0) + tree.date(1), "whole120-1");
        CHECKS.same("type of the message", Mail.typeOf(tree, 0), "multipart/m0");
        CHECKS.same("its last field", Mail.fieldName(tree, 0, 4), "content-type");
        CHECKS.same("its boundary", Mail.parameterName(tree, 0, 0) + Mail.parameterValue(tree, 0, 0), "boundaryb");
        for (int n = 1; n < 6; n++) {
            CHECKS.same("its parameter " + n, Mail.parameterName(tree, 0, n) + Mail.parameterValue(tree, 0, n), (char) ('`' + n) + "0");
        }
        for (int i = 1; i < 40; i++) {
            isPart(tree, i);
        }
    }

    private static void isPart(MessageTree tree, int i) {
        CHECKS.same("type of " + i, Mail.typeOf(tree, i), "t" + i + "/s" + i);
        CHECKS.same("body of " + i, Mail.body(tree, i), "<" + i + ">");
        CHECKS.same("part " + i, tree.part(0, i - 1), i);
        for (int n = 0; n < 6; n++) {
            CHECKS.same("name " + n + " of " + i, Mail.parameterName(tree, i, n), String.valueOf((char) ('a' + n)));
            CHECKS.same("value " + n + " of " + i, Mail.parameterValue(tree, i, n), i + "-" + n);
        }
        for (int f = 1; f < 5; f++) {
            CHECKS.same("field " + f + " of " + i, Mail.fieldName(tree, i, f) + Mail.fieldText(tree, i, f), "f" + i);
        }
    }

    private static void fullTapesAgainAndAgain() {
        CHECKS.asked("THE TAPE has at most 8000 bytes; what reads it uses it up.");
        String folded = ("w".repeat(997) + "\r\n ").repeat(7);
        MessageTree tree = new MessageTree();
        Mail.put(tree, "subject: s\r\n " + folded + "x\r\n\r\n" + "y".repeat(600) + "z");
        for (int k = 0; k < 12; k++) {
            CHECKS.same("read of a long subject", tree.read(), 1);
            CHECKS.same("its text", tree.letter(0, 0, 1, -1), 3 + 7 * 998 + 1);
            CHECKS.same("its points", tree.subject(-1), 2 + 7 * 998 + 1);
            CHECKS.same("its last point", tree.subject(7 * 998 + 2), 'x');
            CHECKS.same("its body", tree.octet(0, 600), 'z');
            CHECKS.same("what is written comes again", tree.write(), tree.again());
        }
    }

    private static void fullTapeOfOneAddress() {
        CHECKS.asked("THE TAPE has at most 8000 bytes; what reads it uses it up.");
        String local = "q".repeat(900) + "\r\n " + ("w".repeat(997) + "\r\n ").repeat(7);
        String end = "\"@d\r\n\r\n";
        String most = "to:\"" + local + "z".repeat(8000 - 4 - local.length() - end.length()) + end;
        MessageTree tree = CHECKS.stands(most, 1);
        int size = most.length() - 4 - end.length() - 8 * 2;
        CHECKS.same("the text", tree.letter(0, 0, 1, -1), size + 4);
        CHECKS.same("the local part", tree.address(6, 0, 1, -1), size);
        CHECKS.same("its last byte", tree.address(6, 0, 1, size - 1), 'z');
        CHECKS.same("the domain", tree.address(6, 0, 2, 0), 'd');
        CHECKS.same("the type", tree.type(0, 1, 4), 'n');
    }

    private static void limitsAreOfOneMessage() {
        CHECKS.asked("At most 20 fields an entity, 200 in all.");
        MessageTree fields = new MessageTree();
        for (int k = 0; k < 40; k++) {
            Mail.put(fields, "x:y\r\n".repeat(20) + "\r\n");
            CHECKS.same("read of 20 fields", fields.read(), 1);
            CHECKS.same("fields", fields.entity(0, 2), 20);
        }
        CHECKS.asked("ENTITIES are numbered as they begin: the message 0, each part when it is come to; at most 40.");
        MessageTree parts = new MessageTree();
        for (int k = 0; k < 9; k++) {
            Mail.put(parts, HEAD + "--b\r\n\r\nx\r\n".repeat(39) + "--b--");
            CHECKS.same("read of 40 entities", parts.read(), 40);
        }
        CHECKS.asked("and it lies within 5 others at most");
        MessageTree deep = new MessageTree();
        for (int k = 0; k < 6; k++) {
            Mail.put(deep, deepest(k % 2 == 0));
            CHECKS.same("read of six multiparts", deep.read() < 0 ? 1 : 0, k % 2);
        }
    }

    /** Six multiparts, one within another, and a leaf that is right or wrong. */
    private static String deepest(boolean right) {
        StringBuilder text = new StringBuilder(right ? "\r\nx" : "\r\n\0");
        for (int k = 0; k < 6; k++) {
            text.insert(0, "content-type: multipart/x; boundary=" + k + "\r\n\r\n--" + k + "\r\n").append("\r\n--" + k + "--");
        }
        return text.toString();
    }
}
