import java.util.Random;

/** Messages made of pieces that are mostly right, from a number; the same number makes the same message. */
final class RandomMail {
    private static final String[] SPACES = {"", "", "", " ", "\t", "(c)", " (a(b)\\)) ", "\r\n ", " \r\n\t"};
    private static final String[] WORDS = {"a", "Bc", "d-e", "x9", "part0", "!#$", "z~"};
    private static final String[] QUOTED = {"\"\"", "\"a b\"", "\"\\\"q\\\\\"", "\"\\x,;<@>\"", "\"c\r\n d\""};
    private static final String[] SUBJECTS = {"plain", "=?utf-8?q?=E2=82=AC_?=", "=?us-ascii?b?QUI=?=", "=?x?q?y?=",
        "=?iso-8859-1?Q?=E9=00?=", "=?utf-8?q?=C3?=", "long-".repeat(17), "  ", "\t"};
    private static final String[] DAYS = {"", "", "Mon,", "thu , ", "Fri(x),"};
    private static final String[] MONTHS = {"Jan", "FEB", "mar", "apr", "Dec"};
    private static final String[] BOUNDARIES = {"a", "a b", "b--", "'()+_,-./:=?", "part0", "part1", "Q"};
    private static final String[] CODES = {"7bit", "8BIT", "binary", "Base64", "quoted-printable"};

    private final Random random;

    RandomMail(long seed) {
        random = new Random(seed);
    }

    String message() {
        return entity(0, true);
    }

    /** A message with some bytes changed, put in, taken out or told twice. */
    String spoilt(String message) {
        StringBuilder text = new StringBuilder(message);
        String signs = "\r\n \t:;,<>@\"\\()=-?/.+0aZ\0\177\u00ff";
        for (int k = random.nextInt(3); k >= 0 && text.length() > 0; k--) {
            int at = random.nextInt(text.length());
            switch (random.nextInt(6)) {
                case 0:
                    text.setCharAt(at, signs.charAt(random.nextInt(signs.length())));
                    break;
                case 1:
                    text.insert(at, signs.charAt(random.nextInt(signs.length())));
                    break;
                case 2:
                    text.deleteCharAt(at);
                    break;
                case 3:
                    text.delete(at, Math.min(text.length(), at + random.nextInt(12)));
                    break;
                case 4:
                    text.insert(random.nextInt(text.length()), text.substring(at, Math.min(text.length(), at + random.nextInt(30))));
                    break;
                default:
                    text.setLength(at);
                    break;
            }
        }
        return text.toString();
    }

    private String one(String... pieces) {
        return pieces[random.nextInt(pieces.length)];
    }

    private String space() {
        return one(SPACES);
    }

    private boolean often() {
        return random.nextInt(3) > 0;
    }

    private String entity(int depth, boolean isMessage) {
        boolean multipart = depth < 6 && random.nextInt(depth + 2) < 2 && random.nextInt(4) > 0;
        String boundary = one(BOUNDARIES) + random.nextInt(depth + 2);
        String code = random.nextInt(12) == 0 ? one(CODES) : multipart ? one("7bit", "8bit", "binary") : one(CODES);
        StringBuilder text = new StringBuilder();
        otherFields(text);
        if (multipart || random.nextInt(3) == 0) {
            text.append("Content-Type:" + space() + typeText(multipart ? boundary : null) + space() + "\r\n");
        }
        if (isMessage) {
            messageFields(text);
        }
        boolean coded = often();
        if (coded) {
            text.append("content-transfer-encoding: " + code + space() + "\r\n");
        }
        otherFields(text);
        text.append("\r\n");
        return text + (multipart ? parts(boundary, depth) : body(coded ? code : "7bit"));
    }

    private void otherFields(StringBuilder text) {
        for (int k = random.nextInt(3); k > 0; k--) {
            text.append("X-" + one(WORDS) + ":" + space());
            for (int n = random.nextInt(6); n > 0; n--) {
                text.append(one(WORDS) + one(" ", "  ", "\t", "\r\n ") + one(SUBJECTS));
            }
            text.append("\r\n");
        }
    }

    private void messageFields(StringBuilder text) {
        if (often()) {
            text.append("Subject:");
            for (int n = random.nextInt(7); n > 0; n--) {
                text.append(one(" ", " ", "  ", "\t", "\r\n ", "") + one(SUBJECTS));
            }
            text.append("\r\n");
        }
        if (random.nextInt(3) == 0) {
            text.append("Date:" + space() + one(DAYS) + space() + (1 + random.nextInt(28)) + space() + one(MONTHS) + space()
                    + (1900 + random.nextInt(200)) + space() + "1" + random.nextInt(10) + space() + ":" + space() + "5"
                    + random.nextInt(10) + one("", ":00", " : 59") + space() + one("+", "-") + "0" + random.nextInt(10) + "30\r\n");
        }
        if (often()) {
            text.append("From:" + addresses() + "\r\n");
        }
        if (often()) {
            text.append("TO:" + addresses() + "\r\n");
        }
    }

    private String addresses() {
        StringBuilder text = new StringBuilder(oneAddress());
        for (int k = random.nextInt(4); k > 0; k--) {
            text.append("," + oneAddress());
        }
        return text.toString();
    }

    private String oneAddress() {
        String local = one(one(WORDS), one(WORDS) + "." + one(WORDS), one(QUOTED));
        String spec = space() + local + space() + "@" + space() + one(WORDS) + one("", ".COM") + space();
        StringBuilder text = new StringBuilder();
        if (often()) {
            for (int k = random.nextInt(3); k > 0; k--) {
                text.append(space() + one(one(WORDS) + " ", one(QUOTED)));
            }
            return text + "<" + spec + ">" + space();
        }
        return spec;
    }

    private String typeText(String boundary) {
        StringBuilder text = new StringBuilder((boundary == null ? one("text", "Image") : "Multipart") + space() + "/" + one(WORDS));
        if (random.nextInt(3) == 0) {
            text.append(space() + ";" + space() + "n1" + space() + "=" + space() + one(one("v", "W-x"), one(QUOTED)));
        }
        if (boundary != null) {
            text.append(";boundary=\"" + boundary + "\"");
        }
        if (random.nextInt(3) == 0) {
            text.append(";" + one("n2", "N1") + "=" + one(QUOTED));
        }
        return text.toString();
    }

    private String parts(String boundary, int depth) {
        StringBuilder text = new StringBuilder(one("", "", "before\r\n"));
        for (int k = 1 + random.nextInt(3); k > 0; k--) {
            text.append("--" + boundary + one("", "", " ", "\t ") + "\r\n" + entity(depth + 1, false) + "\r\n");
        }
        return text.append("--" + boundary + "--" + one("", " ", "\r\n", "\r\nbehind")).toString();
    }

    private String body(String code) {
        StringBuilder text = new StringBuilder();
        String[] pieces = {"line\r\n", "x", "\r\n", "--a", "A b"};
        if (code.equals("Base64")) {
            pieces = new String[] {"QUJD", "+/9z", "\r\n", "Q\r\nUJD", "QQ==", "QUI="};
        } else if (code.equals("quoted-printable")) {
            pieces = new String[] {"=3D", "=\r\n", "a \tb", "\r\n", "~", " ", "=00"};
        } else if (code.equals("binary")) {
            pieces = new String[] {"\0\u00ff", "\u0080", "\r\n", "x"};
        }
        for (int k = random.nextInt(random.nextInt(8) == 0 ? 60 : 6); k > 0; k--) {
            text.append(one(pieces));
        }
        return text.toString();
    }
}
