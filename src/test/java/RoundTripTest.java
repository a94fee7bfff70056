/** What is written reads back to the same tree; promises 4 and 16 to 18 over many messages. */
public final class RoundTripTest {
    private static final Checks CHECKS = new Checks("RoundTripTest");
    private static int right;

    public static void main(String[] args) {
        for (int seed = 0; seed < 20000; seed++) {
            String message = new RandomMail(seed).message();
            if (message.length() <= 8000) {
                comesBack(message);
            }
        }
        CHECKS.same("enough messages were right", right > 5000 ? 1 : 0, 1);
        CHECKS.finish();
    }

    private static void comesBack(String message) {
        MessageTree tree = new MessageTree();
        Mail.put(tree, message);
        int entities = tree.read();
        if (entities < 0) {
            return;
        }
        String told = told(tree, entities);
        String written = Mail.written(tree);
        if (written.length() > 8000 || hasLongLine(written)) {
            return;
        }
        right++;
        tree.again();
        CHECKS.same("read again of " + Mail.shown(message), tree.read(), entities);
        CHECKS.same("the tree of " + Mail.shown(message), told(tree, entities), told);
        CHECKS.same("written again of " + Mail.shown(message), Mail.written(tree), written);
    }

    private static boolean hasLongLine(String text) {
        for (String line : text.split("\r\n", -1)) {
            if (line.length() > 998) {
                return true;
            }
        }
        return false;
    }

    /** All that the plain form keeps of a tree. */
    private static String told(MessageTree tree, int entities) {
        StringBuilder text = new StringBuilder();
        text.append(Mail.subjectOf(tree)).append('|').append(tree.date(0)).append('|').append(tree.date(1));
        for (int kind = 5; kind <= 6; kind++) {
            for (int n = 0; n < tree.addresses(kind); n++) {
                text.append("\naddress ").append(Mail.addressOf(tree, kind, n));
            }
        }
        for (int i = 0; i < entities; i++) {
            text.append("\nentity ").append(tree.entity(i, 0)).append(' ').append(tree.entity(i, 1));
            text.append(' ').append(tree.entity(i, 6)).append(' ').append(Mail.typeOf(tree, i));
            for (int f = 0; f < tree.entity(i, 2); f++) {
                if (tree.kind(i, f) != 1 && tree.kind(i, f) != 2) {
                    text.append("\nfield ").append(tree.kind(i, f)).append(Mail.fieldName(tree, i, f));
                    text.append(':').append(withoutBlanks(Mail.fieldText(tree, i, f)));
                }
            }
            for (int n = 0; n < tree.entity(i, 5); n++) {
                String name = Mail.parameterName(tree, i, n);
                boolean written = tree.entity(i, 6) == 1 && name.equals("boundary");
                text.append("\n; ").append(name).append('=').append(written ? "" : Mail.parameterValue(tree, i, n));
            }
            text.append("\nbody ").append(Mail.body(tree, i));
        }
        return text.toString();
    }

    private static String withoutBlanks(String text) {
        return text.replaceAll("^[ \t]+|[ \t]+$", "");
    }
}
