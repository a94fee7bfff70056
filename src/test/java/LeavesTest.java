/** Promises 5 and 7 as to bodies in their codes. */
public final class LeavesTest {
    private static final Checks CHECKS = new Checks("LeavesTest");

    public static void main(String[] args) {
        plainBodies();
        base64();
        wrongBase64();
        quotedPrintable();
        wrongQuotedPrintable();
        partsEnd();
        wrongPlaces();
        CHECKS.finish();
    }

    private static String coded(String code, String body) {
        return "content-transfer-encoding: " + code + "\r\n\r\n" + body;
    }

    private static void means(String code, String body, String due) {
        MessageTree tree = CHECKS.stands(coded(code, body), 1);
        CHECKS.same("bytes of " + Mail.shown(body), tree.entity(0, 3), due.length());
        CHECKS.same("body " + Mail.shown(body), Mail.body(tree, 0), due);
    }

    private static void fault(String code, String body) {
        CHECKS.faultAtMark(coded(code, body));
    }

    private static void plainBodies() {
        StringBuilder all = new StringBuilder();
        for (int c = 0; c < 256; c++) {
            all.append(c == 10 || c == 13 ? "\r\n" : String.valueOf((char) c));
        }
        String seven = all.substring(1, 130);
        means("7bit", seven, seven);
        means("8bit", all.substring(1), all.substring(1));
        means("binary", all.toString(), all.toString());
        means("7bit", "", "");
        means("7bit", "\r\n\r\n", "\r\n\r\n");
        fault("7bit", "a↑\0");
        fault("7bit", "a↑\u0080");
        fault("8bit", "\u0080↑\0");
        CHECKS.faultAtMark("\r\n\177↑\u00ff\0");
    }

    private static void base64() {
        means("base64", "", "");
        means("base64", "\r\n\r\n", "");
        means("base64", "QUJD", "ABC");
        means("base64", "QUI=", "AB");
        means("base64", "QQ==", "A");
        means("base64", "QUJDQQ==", "ABCA");
        means("base64", "+/+/", "\u00fb\u00ff\u00bf");
        means("base64", "09az", "\u00d3\u00d6\u00b3");
        means("base64", "\r\nQ\r\nU\r\nJ\r\nD\r\nQ\r\nQ\r\n=\r\n=\r\n\r\n", "ABCA");
        means("base64", "////AAAA", "\u00ff\u00ff\u00ff\0\0\0");
    }

    private static void wrongBase64() {
        fault("base64", "Q↑");
        fault("base64", "QU↑");
        fault("base64", "QUJ↑");
        fault("base64", "QUJDQ\r\n↑");
        fault("base64", "QQ=↑");
        fault("base64", "QQ=\r\n↑");
        fault("base64", "↑=");
        fault("base64", "Q↑===");
        fault("base64", "QUJD↑=");
        fault("base64", "QQ==↑=");
        fault("base64", "QQ==\r\n↑QQ==");
        fault("base64", "QUI=↑QUJD");
        fault("base64", "QUI=↑=");
        fault("base64", "QQ=↑Q");
        fault("base64", "Q↑R==");
        fault("base64", "Q↑R\r\n=A");
        fault("base64", "Q↑R=");
        fault("base64", "QU↑J=");
        fault("base64", "QU↑J\r\n\r\n=");
        fault("base64", "QQ↑ ==");
        fault("base64", "QQ==↑ ");
        fault("base64", "Q↑-QQ");
        fault("base64", "Q↑_QQ");
        fault("base64", "Q↑\u00c1QQ");
        fault("base64", "QUJD\r\n↑\tQQ");
    }

    private static void quotedPrintable() {
        means("quoted-printable", "", "");
        means("quoted-printable", "=00=FF=3D=0D=0A", "\0\u00ff=\r\n");
        means("quoted-printable", "a \tb!~", "a \tb!~");
        means("quoted-printable", "a=\r\nb =\r\n\tc=", "ab \tc");
        means("quoted-printable", "=\r\n=\r\n", "");
        means("quoted-printable", "=", "");
        means("quoted-printable", "=\r\n\r\n=", "\r\n");
        means("quoted-printable", "a\r\n\r\nb\r\n", "a\r\n\r\nb\r\n");
        means("quoted-printable", " =20", "  ");
    }

    private static void wrongQuotedPrintable() {
        fault("quoted-printable", "a↑ ");
        fault("quoted-printable", "a ↑ \r\nb");
        fault("quoted-printable", "a↑\t\r\nb");
        fault("quoted-printable", "↑ ");
        fault("quoted-printable", "↑=4");
        fault("quoted-printable", "↑=4\r\n1");
        fault("quoted-printable", "↑=a1");
        fault("quoted-printable", "↑=1a");
        fault("quoted-printable", "↑=G0");
        fault("quoted-printable", "↑= \r\n");
        fault("quoted-printable", "↑==");
        fault("quoted-printable", "↑==41");
        fault("quoted-printable", "a↑\177");
        fault("quoted-printable", "a↑\0");
        fault("quoted-printable", "a↑\u0080");
        fault("quoted-printable", "a↑\u00ff");
        fault("quoted-printable", "a =41↑ \r\n=4");
    }

    private static void partsEnd() {
        String head = "content-type: multipart/x; boundary=b\r\n\r\n--b\r\n";
        MessageTree soft = CHECKS.stands(head + coded("quoted-printable", "a=") + "\r\n--b--", 2);
        CHECKS.same("= ends a part", Mail.body(soft, 1), "a");
        CHECKS.faultAtMark(head + coded("quoted-printable", "a↑=4") + "\r\n--b--");
        CHECKS.faultAtMark(head + coded("quoted-printable", "a↑ ") + "\r\n--b--");
        CHECKS.faultAtMark(head + coded("base64", "QUJ↑") + "\r\n--b--");
        MessageTree binary = CHECKS.stands(head + coded("binary", "\0\r\n\u00ff\r\n") + "\r\n--b--", 2);
        CHECKS.same("binary part", Mail.body(binary, 1), "\0\r\n\u00ff\r\n");
        CHECKS.same("its code", binary.entity(1, 4), 2);
    }

    private static void wrongPlaces() {
        MessageTree tree = CHECKS.stands("\r\nab", 1);
        CHECKS.same("octet 1", tree.octet(0, 1), 'b');
        CHECKS.outside("octet 2", () -> tree.octet(0, 2));
        CHECKS.outside("octet -1", () -> tree.octet(0, -1));
        CHECKS.outside("octet far away", () -> tree.octet(0, Integer.MIN_VALUE));
        CHECKS.outside("octet of entity 1", () -> tree.octet(1, 0));
        CHECKS.outside("octet of entity -1", () -> tree.octet(-1, 0));
    }
}
