/** Terms 2 as to the text of kind 3; promise 12. */
public final class SubjectTest {
    private static final Checks CHECKS = new Checks("SubjectTest");
    private static final String UNKNOWN = "\ufffd";
    private static final String HEX = "0123456789ABCDEF";
    private static final String BASE64 = "ABCDEFGHIJKLMNOPQRSTUVWXYZabcdefghijklmnopqrstuvwxyz0123456789+/";

    public static void main(String[] args) {
        withoutBlanks();
        encoded();
        whereItBegins();
        atMost75();
        charsetsAndCodes();
        signs();
        bytesOfQ();
        bytesOfB();
        padsOfB();
        blanksBetween();
        usAscii();
        iso88591();
        utf8();
        utf8RowByRow();
        otherBytes();
        answers();
        CHECKS.finish();
    }

    private static void means(String text, String due) {
        MessageTree tree = CHECKS.stands("subject:" + text + "\r\n\r\n", 1);
        CHECKS.same("size of " + text, tree.subject(-1), due.codePointCount(0, due.length()));
        CHECKS.same("subject " + text, Mail.subjectOf(tree), due);
    }

    private static void staysAsItStands(String text) {
        means(" " + text, text);
    }

    private static void withoutBlanks() {
        CHECKS.asked("3: the TEXT without blanks at its beginning and end.");
        means("", "");
        means(" ", "");
        means("  \t ", "");
        means("\r\n ", "");
        means("a", "a");
        means("  a  b\t", "a  b");
        means("\t a \t b \t", "a \t b");
        means(" a\r\n  b\r\n \r\n", "a  b");
        means("\r\n a", "a");
    }

    private static void encoded() {
        CHECKS.asked("=? CHARSET ? CODE ? SIGNS ?=");
        means("=?us-ascii?q?a=41_=3D=3F?=", "aA =?");
        means(" =?US-ASCII?Q?a!b=FF=7F=00?= ", "a!b" + UNKNOWN + "\177\0");
        means("=?Utf-8?b?4oKsQQ==?=", "\u20acA");
        means("=?utf-8?B?QUI=?=", "AB");
        means("=?utf-8?B?QUJD?=", "ABC");
        means("=?utf-8?Q?\"(),;:<>@?=", "\"(),;:<>@");
        CHECKS.asked("What is no such word is text as it stands (nothing in it is a fault).");
        staysAsItStands("x?utf-8?q?a?=");
        staysAsItStands("=xutf-8?q?a?=");
        staysAsItStands("=?utf-8xq?a?=");
        staysAsItStands("=?utf-8?qxa?=");
        staysAsItStands("=?utf-8?q?axx");
        staysAsItStands("=?utf-8?q?a?x");
        staysAsItStands("=?utf-8?q?ax=");
        staysAsItStands("=?utf-8?q?a");
        staysAsItStands("=?utf-8?q?a?");
        staysAsItStands("=?utf-8?q?=");
        staysAsItStands("=?utf-8?q?");
        staysAsItStands("=?utf-8?q");
        staysAsItStands("=?utf-8?");
        staysAsItStands("=?utf-8");
        staysAsItStands("=?=");
        staysAsItStands("=?");
        staysAsItStands("=");
        staysAsItStands("?=");
        staysAsItStands("=??=");
        staysAsItStands("=????=");
    }

    private static void whereItBegins() {
        CHECKS.asked("An ENCODED WORD in it begins at the text's beginning or behind a blank, "
                + "and ends at the text's end or before a blank");
        means("x =?utf-8?q?a?=\ty", "x a\ty");
        means("x\t=?utf-8?q?a?= y", "x\ta y");
        means("x\r\n =?utf-8?q?a?=\r\n\ty", "x a\ty");
        means("=?utf-8?q?a?= y", "a y");
        means("y =?utf-8?q?a?=", "y a");
        staysAsItStands("x=?utf-8?q?a?=");
        staysAsItStands("=?utf-8?q?a?=x");
        staysAsItStands("(=?utf-8?q?a?=)");
        staysAsItStands("\"=?utf-8?q?a?=\"");
        staysAsItStands("=?utf-8?q?a?==?utf-8?q?b?=");
        staysAsItStands("==?utf-8?q?a?=");
        staysAsItStands("=?utf-8?q?a?==");
    }

    private static void atMost75() {
        CHECKS.asked("at most 75 bytes");
        means("=?us-ascii?q?" + "a".repeat(59) + "?=", "a".repeat(59));
        means("=?us-ascii?q?" + "a".repeat(60) + "?=", "a".repeat(60));
        staysAsItStands("=?us-ascii?q?" + "a".repeat(61) + "?=");
        staysAsItStands("=?us-ascii?q?" + "a".repeat(400) + "?=");
        // With utf-8 a word of 60 signs in base64 has 72 bytes, one of 64 has 76.
        means("=?utf-8?b?" + "QUJD".repeat(15) + "?=", "ABC".repeat(15));
        staysAsItStands("=?utf-8?b?" + "QUJD".repeat(16) + "?=");
        means("=?us-ascii?b?" + "QUJD".repeat(15) + "?=", "ABC".repeat(15));
        means("=?utf-8?q?" + "a".repeat(63) + "?=", "a".repeat(63));
        staysAsItStands("=?utf-8?q?" + "a".repeat(64) + "?=");
        means("=?iso-8859-1?q?" + "a".repeat(58) + "?=", "a".repeat(58));
        staysAsItStands("=?iso-8859-1?q?" + "a".repeat(59) + "?=");
    }

    private static void charsetsAndCodes() {
        CHECKS.asked("CHARSET us-ascii, iso-8859-1 or utf-8, CODE b or q");
        for (String charset : new String[] {"us-ascii", "iso-8859-1", "utf-8"}) {
            for (String code : new String[] {"b", "q", "B", "Q"}) {
                String due = code.equalsIgnoreCase("b") ? "ABC" : "QUJD";
                means("=?" + charset + "?" + code + "?QUJD?=", due);
                means("=?" + charset.toUpperCase() + "?" + code + "?QUJD?=", due);
                staysAsItStands("=?" + charset + "x?" + code + "?QUJD?=");
                staysAsItStands("=?x" + charset + "?" + code + "?QUJD?=");
                staysAsItStands("=?" + charset.substring(1) + "?" + code + "?QUJD?=");
                staysAsItStands("=?" + charset.substring(0, charset.length() - 1) + "?" + code + "?QUJD?=");
                staysAsItStands("=?" + charset + "*en?" + code + "?QUJD?=");
                staysAsItStands("=?" + charset + "?" + code + code + "?QUJD?=");
            }
            staysAsItStands("=?" + charset + "??QUJD?=");
        }
        for (char c : Mail.BYTES) {
            if (c > 32 && c < 127 && !Mail.isIn("bBqQ", c)) {
                staysAsItStands("=?utf-8?" + c + "?QUJD?=");
            }
        }
        staysAsItStands("=??q?a?=");
        staysAsItStands("=?utf8?q?a?=");
        staysAsItStands("=?utf-9?q?a?=");
        staysAsItStands("=?iso-8859-2?q?a?=");
        staysAsItStands("=?ascii?q?a?=");
    }

    private static void signs() {
        CHECKS.asked("SIGNS one or more bytes 33 .. 126 but ?, right for the CODE");
        staysAsItStands("=?utf-8?q??=");
        staysAsItStands("=?utf-8?b??=");
        staysAsItStands("=?utf-8?q???=");
        staysAsItStands("=?utf-8?q?a?b?=");
        staysAsItStands("=?utf-8?q??a?=");
        staysAsItStands("=?utf-8?q?a??=");
        staysAsItStands("=?utf-8?q?a b?=");
        staysAsItStands("=?utf-8?q?a\tb?=");
        staysAsItStands("=?utf-8?q? ?=");
        means("=?utf-8?q?!~?=", "!~");
        means("=?utf-8?q?a?=", "a");
    }

    private static void bytesOfQ() {
        CHECKS.asked("q: = and two of 0 .. 9, A .. F; _ is 32; all others themselves.");
        for (char c : Mail.BYTES) {
            if (c <= 32 || c >= 127) {
                continue;
            }
            if (c == '?' || c == '=') {
                staysAsItStands("=?us-ascii?q?" + c + "?=");
            } else {
                means("=?us-ascii?q?x" + c + "?=", "x" + (c == '_' ? ' ' : c));
            }
            hexSign("=?iso-8859-1?q?=" + c + "0?=", c, HEX.indexOf(c) * 16);
            hexSign("=?iso-8859-1?q?=0" + c + "?=", c, HEX.indexOf(c));
        }
        staysAsItStands("=?utf-8?q?=4?=");
        staysAsItStands("=?utf-8?q?a=?=");
        staysAsItStands("=?utf-8?q?=?=");
        staysAsItStands("=?utf-8?q?==41?=");
        staysAsItStands("=?utf-8?q?=e9?=");
        means("=?utf-8?q?=5F_?=", "_ ");
    }

    private static void hexSign(String word, char c, int value) {
        if (Mail.isIn(HEX, c)) {
            means(word, String.valueOf((char) value));
        } else {
            staysAsItStands(word);
        }
    }

    private static void bytesOfB() {
        CHECKS.asked("right for the CODE: b: CODED as in 4");
        for (char c : Mail.BYTES) {
            if (c > 32 && c < 127) {
                String word = "=?iso-8859-1?b?AA" + c + "A?=";
                if (Mail.isIn(BASE64, c)) {
                    int six = BASE64.indexOf(c);
                    means(word, "\0" + (char) (six >> 2) + (char) ((six & 3) << 6));
                } else {
                    staysAsItStands(word);
                }
            }
        }
        means("=?us-ascii?b?QUJDREVG?=", "ABCDEF");
        staysAsItStands("=?utf-8?b?QUJDREV?=");
        staysAsItStands("=?utf-8?b?QUJDR?=");
        staysAsItStands("=?utf-8?b?QQ?=");
        staysAsItStands("=?utf-8?b?Q?=");
    }

    private static void padsOfB() {
        CHECKS.asked("the last four may end with = (two bytes) or = = (one byte); bits that are left over have to be 0");
        means("=?utf-8?b?QQ==?=", "A");
        means("=?utf-8?b?QUJDQUI=?=", "ABCAB");
        for (int six = 0; six < 64; six++) {
            String one = "=?iso-8859-1?b?A" + BASE64.charAt(six) + "==?=";
            String two = "=?iso-8859-1?b?AA" + BASE64.charAt(six) + "=?=";
            if (six % 16 == 0) {
                means(one, String.valueOf((char) (six >> 4)));
            } else {
                staysAsItStands(one);
            }
            if (six % 4 == 0) {
                means(two, "\0" + (char) (six >> 2));
            } else {
                staysAsItStands(two);
            }
        }
        for (String signs : new String[] {"QQ=", "Q===", "QQ==QQ==", "QUI=QUI=", "QQ=Q", "====", "=", "==", "QQ===", "QUJD=", "QUI=="}) {
            staysAsItStands("=?utf-8?b?" + signs + "?=");
        }
        // A word that is none leaves nothing behind for the next one.
        means("=?utf-8?b?QUI?= =?utf-8?b?QUJD?= =?utf-8?b?QQ=?= =?utf-8?b?QUI=?= =?utf-8?b?QUJD?=",
                "=?utf-8?b?QUI?= ABC =?utf-8?b?QQ=?= ABABC");
    }

    private static void blanksBetween() {
        CHECKS.asked("Blanks between two encoded words are none.");
        means("=?utf-8?q?a?= =?utf-8?q?b?=", "ab");
        means("=?utf-8?b?QUI=?= =?utf-8?b?QQ==?= =?utf-8?b?QUJD?=", "ABAABC");
        means("=?utf-8?q?a?= \t  =?utf-8?q?b?=\r\n =?utf-8?q?c?=", "abc");
        means("=?utf-8?q?a?=\t=?us-ascii?b?QUI=?=", "aAB");
        means("=?utf-8?q?a?=  x  =?utf-8?q?b?=", "a  x  b");
        means("x  =?utf-8?q?b?=  y", "x  b  y");
        means("=?utf-8?q?a_?= =?utf-8?q?_b?=", "a  b");
        means("=?utf-8?q?a?=  =?utf-8?q?b=?=  =?utf-8?q?c?=", "a  =?utf-8?q?b=?=  c");
        means("a \t b", "a \t b");
        CHECKS.asked("Its bytes are CODE POINTS");
        means("=?utf-8?q?=C3?= =?utf-8?q?=A9?=", UNKNOWN + UNKNOWN);
    }

    private static void usAscii() {
        CHECKS.asked("us-ascii 0 .. 127 as they are, others 65533");
        for (int c = 0; c < 256; c++) {
            means(String.format("=?us-ascii?q?=%02X?=", c), c <= 127 ? String.valueOf((char) c) : UNKNOWN);
        }
    }

    private static void iso88591() {
        CHECKS.asked("iso-8859-1 as they are");
        for (int c = 0; c < 256; c++) {
            means(String.format("=?ISO-8859-1?q?=%02X?=", c), String.valueOf((char) c));
        }
        means("=?iso-8859-1?b?/wCA?=", "\u00ff\0\u0080");
    }

    private static void utf8() {
        CHECKS.asked("utf-8: from the left the longest right row of 1 to 4 bytes "
                + "(shortest form, not 55296 .. 57343, 1114111 at most), a byte with which none begins is 65533.");
        means("=?utf-8?q?=C2=80=DF=BF?=", "\u0080\u07ff");
        means("=?utf-8?q?=E0=A0=80=EF=BF=BF?=", "\u0800\uffff");
        means("=?utf-8?q?=F0=90=80=80=F4=8F=BF=BF?=", "\ud800\udc00\udbff\udfff");
        means("=?utf-8?q?=C0=80?=", UNKNOWN.repeat(2));
        means("=?utf-8?q?=C1=BF?=", UNKNOWN.repeat(2));
        means("=?utf-8?q?=E0=9F=BF?=", UNKNOWN.repeat(3));
        means("=?utf-8?q?=E0=80=80?=", UNKNOWN.repeat(3));
        means("=?utf-8?q?=F0=8F=BF=BF?=", UNKNOWN.repeat(4));
        means("=?utf-8?q?=ED=A0=80?=", UNKNOWN.repeat(3));
        means("=?utf-8?q?=ED=BF=BF?=", UNKNOWN.repeat(3));
        means("=?utf-8?q?=ED=9F=BF=EE=80=80?=", "\ud7ff\ue000");
        means("=?utf-8?q?=F4=90=80=80?=", UNKNOWN.repeat(4));
        means("=?utf-8?q?=F5=80=80=80?=", UNKNOWN.repeat(4));
        means("=?utf-8?q?=F8=88=80=80=80?=", UNKNOWN.repeat(5));
        means("=?utf-8?q?=80a=BF?=", UNKNOWN + "a" + UNKNOWN);
        means("=?utf-8?q?=E2=82a?=", UNKNOWN.repeat(2) + "a");
        means("=?utf-8?q?=E2=82=C2=80?=", UNKNOWN.repeat(2) + "\u0080");
        means("=?utf-8?q?=E2=C3=A9?=", UNKNOWN + "\u00e9");
        means("=?utf-8?q?=F0=9F=98?=", UNKNOWN.repeat(3));
        means("=?utf-8?q?=C3?=", UNKNOWN);
        means("=?utf-8?q?=C3=A9=A9?=", "\u00e9" + UNKNOWN);
        means("=?utf-8?q?=C3=C0?=", UNKNOWN.repeat(2));
        means("=?utf-8?q?=C3=7F?=", UNKNOWN + "\177");
        means("=?utf-8?q?=FF=FE?=", UNKNOWN.repeat(2));
    }

    private static void utf8RowByRow() {
        CHECKS.asked("utf-8: from the left the longest right row of 1 to 4 bytes");
        for (int c = 0; c < 256; c++) {
            means(String.format("=?utf-8?q?=%02X?=", c), c <= 127 ? String.valueOf((char) c) : UNKNOWN);
            boolean two = c >= 0xc2 && c <= 0xdf;
            means(String.format("=?utf-8?q?=%02X=80?=", c), two ? String.valueOf((char) ((c & 31) << 6))
                    : (c <= 127 ? String.valueOf((char) c) : UNKNOWN) + UNKNOWN);
        }
        for (int point : new int[] {0x80, 0x7ff, 0x800, 0xfff, 0x1000, 0xd7ff, 0xe000, 0xfffd, 0xffff, 0x10000, 0x3ffff, 0x40000,
            0xfffff, 0x100000, 0x10ffff}) {
            String text = new String(Character.toChars(point));
            StringBuilder word = new StringBuilder("=?utf-8?q?");
            for (byte b : text.getBytes(java.nio.charset.StandardCharsets.UTF_8)) {
                word.append(String.format("=%02X", b & 255));
            }
            means(word + "?=", text);
        }
    }

    private static void otherBytes() {
        CHECKS.asked("Other bytes of the text are code points as they are.");
        for (char c : Mail.BYTES) {
            if (Mail.inField(c)) {
                staysAsItStands("x" + c + "y");
            }
        }
        staysAsItStands("(a) \"b\" <c> \\");
        staysAsItStands("((((((((((((");
    }

    private static void answers() {
        CHECKS.asked("CODE POINT k; k = NONE: how many (0 without a message, or a subject). "
                + "IndexOutOfBoundsException: there is none such.");
        MessageTree text = CHECKS.stands("subject: =?utf-8?q?=F0=9F=98=80?=x\r\nsubjects: no\r\n\r\n", 1);
        CHECKS.same("as it stands", text.subject(-1), 25);
        MessageTree one = CHECKS.stands("subject: =?utf-8?q?=F0=9F=98=80?=\r\n\r\n", 1);
        CHECKS.same("size", one.subject(-1), 1);
        CHECKS.same("point", one.subject(0), 0x1f600);
        CHECKS.outside("point 1 of 1", () -> one.subject(1));
        MessageTree empty = CHECKS.stands("subject: \r\n\r\n", 1);
        MessageTree none = CHECKS.stands("content-transfer-encoding: 7bit\r\n\r\nbody", 1);
        for (MessageTree tree : new MessageTree[] {empty, none, new MessageTree()}) {
            CHECKS.same("no subject's size", tree.subject(-1), 0);
            CHECKS.outside("no subject's first", () -> tree.subject(0));
        }
        for (int n : Mail.NO_PLACES) {
            CHECKS.outside("point " + n, () -> one.subject(n));
            CHECKS.outside("point " + n, () -> none.subject(n));
        }
    }
}
