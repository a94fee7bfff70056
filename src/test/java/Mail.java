import java.util.function.IntUnaryOperator;

/** Texts into a MessageTree, and out of it; a character is a byte. */
final class Mail {
    /** Numbers that are no place of anything: below 0 but NONE, and far too large. */
    static final int[] NO_PLACES = {-2, Integer.MIN_VALUE, 8000, 1 << 16, Integer.MAX_VALUE - 1, Integer.MAX_VALUE};
    /** All bytes but those of line ends. */
    static final char[] BYTES = allBytes().toCharArray();
    static final String LETTERS_DIGITS = "abcdefghijklmnopqrstuvwxyzABCDEFGHIJKLMNOPQRSTUVWXYZ0123456789";
    static final String TOKEN_BYTES = LETTERS_DIGITS + "!#$%&'*+-.^_`{|}~";
    static final String ATOM_BYTES = LETTERS_DIGITS + "!#$%&'*+-/=?^_`{|}~";

    private Mail() {
    }

    private static String allBytes() {
        StringBuilder all = new StringBuilder();
        for (char c = 0; c < 256; c++) {
            if (c != 10 && c != 13) {
                all.append(c);
            }
        }
        return all.toString();
    }

    static boolean isIn(String set, char c) {
        return set.indexOf(c) >= 0;
    }

    /** Whether a byte may stand in a field. */
    static boolean inField(char c) {
        return c >= 32 && c <= 126 || c == 9;
    }

    static String withoutMark(String marked) {
        return marked.replace("↑", "");
    }

    /** The tape has this text alone. */
    static void put(MessageTree tree, String text) {
        tree.end(0);
        StringBuilder padded = new StringBuilder(text);
        while (padded.length() % 20 != 0) {
            padded.append('\0');
        }
        for (int at = 0; at < padded.length(); at += 20) {
            tree.feed(number(padded, at), number(padded, at + 4), number(padded, at + 8),
                    number(padded, at + 12), number(padded, at + 16));
        }
        tree.end(text.length());
    }

    private static int number(CharSequence text, int at) {
        return text.charAt(at) << 24 | text.charAt(at + 1) << 16 | text.charAt(at + 2) << 8 | text.charAt(at + 3);
    }

    static String collected(int size, IntUnaryOperator item) {
        StringBuilder text = new StringBuilder();
        for (int k = 0; k < size; k++) {
            text.appendCodePoint(item.applyAsInt(k));
        }
        return text.toString();
    }

    static String fieldName(MessageTree tree, int i, int f) {
        return collected(tree.letter(i, f, 0, MessageTree.NONE), k -> tree.letter(i, f, 0, k));
    }

    static String fieldText(MessageTree tree, int i, int f) {
        return collected(tree.letter(i, f, 1, MessageTree.NONE), k -> tree.letter(i, f, 1, k));
    }

    static String body(MessageTree tree, int i) {
        return collected(tree.entity(i, 3), k -> tree.octet(i, k));
    }

    static String typeOf(MessageTree tree, int i) {
        String first = collected(tree.type(i, 0, MessageTree.NONE), k -> tree.type(i, 0, k));
        return first + "/" + collected(tree.type(i, 1, MessageTree.NONE), k -> tree.type(i, 1, k));
    }

    static String parameterName(MessageTree tree, int i, int n) {
        return collected(tree.parameter(i, n, 0, MessageTree.NONE), k -> tree.parameter(i, n, 0, k));
    }

    static String parameterValue(MessageTree tree, int i, int n) {
        return collected(tree.parameter(i, n, 1, MessageTree.NONE), k -> tree.parameter(i, n, 1, k));
    }

    /** An address as name|local|domain. */
    static String addressOf(MessageTree tree, int kind, int n) {
        StringBuilder text = new StringBuilder();
        for (int which = 0; which < 3; which++) {
            int w = which;
            text.append(which == 0 ? "" : "|");
            text.append(collected(tree.address(kind, n, w, MessageTree.NONE), k -> tree.address(kind, n, w, k)));
        }
        return text.toString();
    }

    static String subjectOf(MessageTree tree) {
        return collected(tree.subject(MessageTree.NONE), tree::subject);
    }

    static String written(MessageTree tree) {
        return collected(tree.write(), tree::out);
    }

    static String shown(String text) {
        String escaped = text.replace("\r", "\\r").replace("\n", "\\n").replace("\t", "\\t").replace("\0", "\\0");
        return escaped.length() <= 300 ? escaped : escaped.substring(0, 300) + "..(" + text.length() + ")";
    }
}
