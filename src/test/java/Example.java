import java.nio.charset.StandardCharsets;

/** A message of two parts is read, told, written in the plain form, and read again. README.md shows this file. */
public final class Example {
    public static void main(String[] args) {
        MessageTree tree = new MessageTree();
        put(tree, String.join("\r\n",
                "Subject: =?utf-8?q?one_=26_two?=",
                "From: Ann <ann@Example.org>",
                "Content-Type: multipart/mixed; boundary=cut",
                "",
                "--cut",
                "",
                "one",
                "--cut",
                "Content-Transfer-Encoding: base64",
                "",
                "dHdv",
                "--cut--"));
        int entities = tree.read();
        if (entities < 0) {
            System.out.println("fault at place " + (-1 - entities));
            return;
        }
        System.out.println("subject: " + subject(tree));
        for (int i = 0; i < entities; i++) {
            System.out.println("entity " + i + " of " + tree.entity(i, 0) + ": parts " + tree.entity(i, 1)
                    + ", fields " + tree.entity(i, 2) + ", body '" + body(tree, i) + "'");
        }
        System.out.println("bytes written: " + tree.write());
        tree.again();
        System.out.println("entities read again: " + tree.read());
    }

    /** feed takes twenty bytes, four in a number; end cuts off what was fed too much. */
    static void put(MessageTree tree, String text) {
        byte[] bytes = text.getBytes(StandardCharsets.ISO_8859_1);
        for (int at = 0; at < bytes.length; at += 20) {
            tree.feed(four(bytes, at), four(bytes, at + 4), four(bytes, at + 8), four(bytes, at + 12), four(bytes, at + 16));
        }
        tree.end(bytes.length);
    }

    static int four(byte[] bytes, int at) {
        int number = 0;
        for (int k = at; k < at + 4; k++) {
            number = number << 8 | (k < bytes.length ? bytes[k] & 255 : 0);
        }
        return number;
    }

    /** In subject, letter, type, parameter and address k = NONE asks how many there are. */
    static String subject(MessageTree tree) {
        StringBuilder text = new StringBuilder();
        for (int k = 0; k < tree.subject(MessageTree.NONE); k++) {
            text.appendCodePoint(tree.subject(k));
        }
        return text.toString();
    }

    static String body(MessageTree tree, int i) {
        StringBuilder text = new StringBuilder();
        for (int k = 0; k < tree.entity(i, 3); k++) {
            text.append((char) tree.octet(i, k));
        }
        return text.toString();
    }
}
