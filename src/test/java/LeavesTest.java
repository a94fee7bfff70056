/** Terms 4; promise 7. */
public final class LeavesTest {
    private static final Checks CHECKS = new Checks("LeavesTest");
    private static final String BASE64 = "ABCDEFGHIJKLMNOPQRSTUVWXYZabcdefghijklmnopqrstuvwxyz0123456789+/";
    private static final String HEX = "0123456789ABCDEF";
    private static final String HEAD = "content-type: multipart/x; boundary=b\r\n\r\n--b\r\n";

    public static void main(String[] args) {
        plainBytes();
        plainBodies();
        base64();
        signsOfBase64();
        padsOfBase64();
        bitsLeftOver();
        lineEndsInBase64();
        base64EndsWithinFour();
        quotedPrintable();
        bytesOfQuotedPrintable();
        blanksAtLineEnds();
        hexSigns();
        equalsAtLineEnds();
        lineEndsInQuotedPrintable();
        partsEnd();
        oneLeafBehindAnother();
        octets();
        CHECKS.finish();
    }

    private static String coded(String code, String body) {
        return "content-transfer-encoding: " + code + "\r\n\r\n" + body;
    }

    private static void means(String code, String body, String due) {
        MessageTree tree = CHECKS.stands(coded(code, body), 1);
        CHECKS.same("bytes of " + Mail.shown(body), tree.entity(0, 3), due.length());
        CHECKS.same("body " + Mail.shown(body), Mail.body(tree, 0), due);
    }

    private static void fault(String code, String body) {
        CHECKS.faultAtMark(coded(code, body));
    }

    private static void plainBytes() {
        CHECKS.asked("7bit: bytes 1 .. 127; 8bit: but 0; binary: all; as they are.");
        for (char c : Mail.BYTES) {
            CHECKS.standsOrFaults("\r\nx↑" + c, c >= 1 && c <= 127);
            CHECKS.standsOrFaults(coded("7bit", "↑" + c + "x"), c >= 1 && c <= 127);
            CHECKS.standsOrFaults(coded("8bit", "x\r\n↑" + c), c != 0);
            means("binary", "x" + c + "\r\n", "x" + c + "\r\n");
        }
        fault("7bit", "a↑\0\u0080");
        fault("7bit", "a↑\u0080\0");
        fault("8bit", "\u0080↑\0\0");
    }

    private static void plainBodies() {
        CHECKS.asked("7bit: bytes 1 .. 127; 8bit: but 0; binary: all; as they are.");
        StringBuilder all = new StringBuilder();
        for (int c = 0; c < 256; c++) {
            all.append(c == 10 || c == 13 ? "\r\n" : String.valueOf((char) c));
        }
        String seven = all.substring(1, 130);
        means("7bit", seven, seven);
        means("8bit", all.substring(1), all.substring(1));
        means("binary", all.toString(), all.toString());
        means("7bit", "", "");
        means("7bit", "\r\n\r\n", "\r\n\r\n");
        means("7bit", "=41 QQ==", "=41 QQ==");
    }

    private static void base64() {
        CHECKS.asked("rows of four of A .. Z a .. z 0 .. 9 + / (six bits each, the first one highest): three bytes each");
        means("base64", "", "");
        means("base64", "QUJD", "ABC");
        means("base64", "QUJDREVG", "ABCDEF");
        means("base64", "+/+/", "\u00fb\u00ff\u00bf");
        means("base64", "09az", "\u00d3\u00d6\u00b3");
        means("base64", "////AAAA", "\u00ff\u00ff\u00ff\0\0\0");
        for (int k = 0; k < 4; k++) {
            for (int six = 0; six < 64; six++) {
                int bits = six << 18 - 6 * k;
                String signs = "AAAA".substring(0, k) + BASE64.charAt(six) + "AAAA".substring(k + 1);
                means("base64", signs, "" + (char) (bits >> 16) + (char) (bits >> 8 & 255) + (char) (bits & 255));
            }
        }
    }

    private static void signsOfBase64() {
        CHECKS.asked("rows of four of A .. Z a .. z 0 .. 9 + / (six bits each, the first one highest): three bytes each");
        for (char c : Mail.BYTES) {
            if (!Mail.isIn(BASE64 + "=", c)) {
                fault("base64", "↑" + c + "AAA");
                fault("base64", "A↑" + c + "AA");
                fault("base64", "AA↑" + c + "A");
                fault("base64", "AAA↑" + c);
                fault("base64", "AAAA↑" + c);
                fault("base64", "AA==↑" + c);
            }
        }
        fault("base64", "QUJD\r\n↑\tQQ");
    }

    private static void padsOfBase64() {
        CHECKS.asked("the last four may end with = (two bytes) or = = (one byte)");
        means("base64", "QUI=", "AB");
        means("base64", "QQ==", "A");
        means("base64", "QUJDQQ==", "ABCA");
        means("base64", "QUJDQUI=", "ABCAB");
        fault("base64", "↑=");
        fault("base64", "↑====");
        fault("base64", "Q↑===");
        fault("base64", "QUJD↑=");
        fault("base64", "QUJDQ↑=");
        fault("base64", "QQ=↑Q");
        CHECKS.asked("nothing behind the last = but them");
        for (char c : BASE64.concat("=").toCharArray()) {
            fault("base64", "QQ==↑" + c + "AAA");
            fault("base64", "QUI=\r\n↑" + c + "AAA");
            if (c != '=') {
                fault("base64", "QQ=↑" + c);
            }
        }
        means("base64", "QQ==\r\n\r\n", "A");
        means("base64", "QUI=\r\n", "AB");
    }

    private static void bitsLeftOver() {
        CHECKS.asked("bits that are left over have to be 0 (else the last sign before = cannot stand)");
        for (int six = 0; six < 64; six++) {
            char c = BASE64.charAt(six);
            CHECKS.standsOrFaults(coded("base64", "A↑" + c + "=="), six % 16 == 0);
            CHECKS.standsOrFaults(coded("base64", "AA↑" + c + "="), six % 4 == 0);
            CHECKS.standsOrFaults(coded("base64", "AAAAA↑" + c + "\r\n=\r\n="), six % 16 == 0);
            CHECKS.standsOrFaults(coded("base64", "AAAAAA↑" + c + "\r\n\r\n="), six % 4 == 0);
        }
        means("base64", "Aw==", "\3");
        means("base64", "ABA=", "\0\20");
        fault("base64", "Q↑R=");
        fault("base64", "Q↑R\r\n=A");
    }

    private static void lineEndsInBase64() {
        CHECKS.asked("Line ends may stand anywhere in a body");
        means("base64", "\r\n\r\n", "");
        String signs = "QUJDQQ==";
        for (int k = 0; k <= signs.length(); k++) {
            means("base64", signs.substring(0, k) + "\r\n" + signs.substring(k), "ABCA");
            means("base64", signs.substring(0, k) + "\r\n\r\n" + signs.substring(k) + "\r\n", "ABCA");
        }
        means("base64", "\r\nQ\r\nU\r\nJ\r\nD\r\nQ\r\nQ\r\n=\r\n=\r\n\r\n", "ABCA");
        fault("base64", "QQ↑ ==");
    }

    private static void base64EndsWithinFour() {
        CHECKS.asked("When it ends within four: b.");
        for (String signs : new String[] {"Q", "QU", "QUJ", "QQ=", "QUJDQ", "QUJDQQ", "QUJDQUI", "QUJDQQ="}) {
            fault("base64", signs + "↑");
            fault("base64", signs + "\r\n↑");
            fault("base64", "\r\n" + signs + "\r\n\r\n↑");
            CHECKS.faultAtMark(HEAD + coded("base64", signs) + "↑\r\n--b--");
            CHECKS.faultAtMark(HEAD + coded("base64", signs) + "\r\n↑\r\n--b--");
        }
    }

    private static void quotedPrintable() {
        CHECKS.asked("QUOTED-PRINTABLE: line by line: bytes 33 .. 126 but = themselves");
        means("quoted-printable", "", "");
        means("quoted-printable", "=00=FF=3D=0D=0A", "\0\u00ff=\r\n");
        means("quoted-printable", "a \tb!~", "a \tb!~");
        means("quoted-printable", " =20", "  ");
        means("quoted-printable", "a_b?", "a_b?");
    }

    private static void bytesOfQuotedPrintable() {
        CHECKS.asked("QUOTED-PRINTABLE: line by line: bytes 33 .. 126 but = themselves");
        for (char c : Mail.BYTES) {
            boolean right = c >= 33 && c <= 126 && c != '=' || c == ' ' || c == '\t';
            CHECKS.standsOrFaults(coded("quoted-printable", "↑" + c + "x"), right);
            CHECKS.standsOrFaults(coded("quoted-printable", "x\r\ny↑" + c + "z\r\n"), right);
            if (right) {
                means("quoted-printable", "x" + c + "y", "x" + c + "y");
            }
        }
        fault("quoted-printable", "a↑\177\0");
        fault("quoted-printable", "a =41↑ \r\n=4");
    }

    private static void blanksAtLineEnds() {
        CHECKS.asked("blanks, but the last byte of a line cannot be one");
        for (String blank : new String[] {" ", "\t"}) {
            fault("quoted-printable", "↑" + blank);
            fault("quoted-printable", "a↑" + blank);
            fault("quoted-printable", "a↑" + blank + "\r\nb");
            fault("quoted-printable", "a " + "↑" + blank + "\r\nb");
            fault("quoted-printable", "a\r\n↑" + blank + "\r\nb");
            fault("quoted-printable", "a\r\n↑" + blank);
            fault("quoted-printable", "a=\r\n↑" + blank);
            fault("quoted-printable", "a↑" + blank + "\r\n");
            means("quoted-printable", "a" + blank + "b\r\n" + blank + "c", "a" + blank + "b\r\n" + blank + "c");
            means("quoted-printable", "a" + blank + "=\r\n" + blank + "=", "a" + blank + blank);
            CHECKS.faultAtMark(HEAD + coded("quoted-printable", "a↑" + blank) + "\r\n--b--");
        }
    }

    private static void hexSigns() {
        CHECKS.asked("= and two of 0 .. 9 A .. F that byte");
        for (char c : Mail.BYTES) {
            CHECKS.standsOrFaults(coded("quoted-printable", "x↑=" + c + "0"), Mail.isIn(HEX, c));
            CHECKS.standsOrFaults(coded("quoted-printable", "x↑=0" + c), Mail.isIn(HEX, c));
        }
        for (int b = 0; b < 256; b++) {
            means("quoted-printable", String.format("=%02X", b), String.valueOf((char) b));
        }
        CHECKS.asked("What does not follow = so is a FAULT at the = .");
        fault("quoted-printable", "↑=4");
        fault("quoted-printable", "↑=4\r\n1");
        fault("quoted-printable", "a↑=A");
        fault("quoted-printable", "↑=a1");
        fault("quoted-printable", "↑=1a");
        fault("quoted-printable", "↑= \r\n");
        fault("quoted-printable", "↑=\t");
        fault("quoted-printable", "↑==");
        fault("quoted-printable", "↑==\r\n");
        fault("quoted-printable", "↑==41");
        fault("quoted-printable", "=41↑=4=");
        fault("quoted-printable", "↑=4\0");
        CHECKS.faultAtMark(HEAD + coded("quoted-printable", "a↑=4") + "\r\n--b--");
    }

    private static void equalsAtLineEnds() {
        CHECKS.asked("= as the last of a line: it goes on with the next one (or ends)");
        means("quoted-printable", "a=\r\nb =\r\n\tc=", "ab \tc");
        means("quoted-printable", "=\r\n=\r\n", "");
        means("quoted-printable", "=", "");
        means("quoted-printable", "a=", "a");
        means("quoted-printable", "a=\r\n", "a");
        means("quoted-printable", "a=\r\n\r\n", "a\r\n");
        means("quoted-printable", "=\r\n\r\n=", "\r\n");
        means("quoted-printable", "=41=", "A");
        MessageTree soft = CHECKS.stands(HEAD + coded("quoted-printable", "a=") + "\r\n--b--", 2);
        CHECKS.same("= ends a part", Mail.body(soft, 1), "a");
        MessageTree line = CHECKS.stands(HEAD + coded("quoted-printable", "a=\r\n") + "\r\n--b--", 2);
        CHECKS.same("= and a line end end a part", Mail.body(line, 1), "a");
    }

    private static void lineEndsInQuotedPrintable() {
        CHECKS.asked("Line ends are themselves.");
        means("quoted-printable", "a\r\n\r\nb\r\n", "a\r\n\r\nb\r\n");
        means("quoted-printable", "\r\n", "\r\n");
        means("quoted-printable", "=0D\r\n=0A", "\r\r\n\n");
    }

    private static void partsEnd() {
        CHECKS.asked("All other entities are LEAVES; their BODY is decoded; a FAULT is the first byte that cannot stand.");
        CHECKS.faultAtMark(HEAD + coded("base64", "QUJ↑") + "\r\n--b--");
        CHECKS.faultAtMark(HEAD + "\r\nx↑\u00ff\r\n--b--");
        MessageTree binary = CHECKS.stands(HEAD + coded("binary", "\0\r\n\u00ff\r\n") + "\r\n--b--", 2);
        CHECKS.same("binary part", Mail.body(binary, 1), "\0\r\n\u00ff\r\n");
        CHECKS.same("its code", binary.entity(1, 4), 2);
        CHECKS.stands(HEAD + "\r\nx\r\n--b--\r\n\0\u00ff", 2);
    }

    private static void oneLeafBehindAnother() {
        CHECKS.asked("All other entities are LEAVES; their BODY is decoded; a FAULT is the first byte that cannot stand.");
        MessageTree tree = CHECKS.stands(HEAD + coded("base64", "QQ==") + "\r\n--b\r\n" + coded("base64", "QUJD") + "\r\n--b\r\n"
                + coded("base64", "QUI=") + "\r\n--b\r\n" + coded("base64", "QUJDREVG") + "\r\n--b\r\n" + coded("quoted-printable", "=3D")
                + "\r\n--b\r\n\r\n=3D\r\n--b--", 7);
        String[] due = {"A", "ABC", "AB", "ABCDEF", "=", "=3D"};
        for (int k = 0; k < due.length; k++) {
            CHECKS.same("body " + (k + 1), Mail.body(tree, k + 1), due[k]);
        }
        // What a fault left half read is gone, too.
        for (String half : new String[] {"QUJDQ", "QQ", "QQ=", "QQ==="}) {
            MessageTree later = CHECKS.stands("\r\n", 1);
            Mail.put(later, coded("base64", half));
            CHECKS.same("a fault", later.read() < 0 ? 1 : 0, 1);
            Mail.put(later, coded("base64", "QUJDREVG"));
            CHECKS.same("read behind a fault", later.read(), 1);
            CHECKS.same("body behind a fault", Mail.body(later, 0), "ABCDEF");
        }
    }

    private static void octets() {
        CHECKS.asked("Byte k (0 .. 255) of a leaf, decoded. IndexOutOfBoundsException: there is none such.");
        String ten = "a@b,".repeat(9) + "c@domain";
        MessageTree tree = CHECKS.stands("from:" + ten + "\r\nto:" + ten + "\r\nsubject: subject\r\n\r\nab", 1);
        CHECKS.same("octet 0", tree.octet(0, 0), 'a');
        CHECKS.same("octet 1", tree.octet(0, 1), 'b');
        CHECKS.outside("octet 2 of 2", () -> tree.octet(0, 2));
        CHECKS.outside("octet -1", () -> tree.octet(0, -1));
        CHECKS.outside("octet of entity 1 of 1", () -> tree.octet(1, 0));
        CHECKS.outside("octet of entity -1", () -> tree.octet(-1, 0));
        CHECKS.outside("octet of entity 40", () -> tree.octet(40, 0));
        for (int n : Mail.NO_PLACES) {
            CHECKS.outside("octet " + n, () -> tree.octet(0, n));
            CHECKS.outside("octet of entity " + n, () -> tree.octet(n, 0));
        }
        MessageTree parts = CHECKS.stands(HEAD + "\r\n\r\n--b\r\n" + coded("base64", "gP8A") + "\r\n--b--", 3);
        CHECKS.outside("octet of a multipart", () -> parts.octet(0, 0));
        CHECKS.outside("octet of an empty leaf", () -> parts.octet(1, 0));
        CHECKS.same("octet 128", parts.octet(2, 0), 128);
        CHECKS.same("octet 255", parts.octet(2, 1), 255);
        CHECKS.same("octet 0", parts.octet(2, 2), 0);
        CHECKS.outside("octet 3 of 3", () -> parts.octet(2, 3));
    }
}
