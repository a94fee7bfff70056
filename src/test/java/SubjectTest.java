/** Promise 12: subjects and their encoded words. */
public final class SubjectTest {
    private static final Checks CHECKS = new Checks("SubjectTest");
    private static final String UNKNOWN = "\ufffd";

    public static void main(String[] args) {
        plain();
        encoded();
        blanksBetween();
        noEncodedWords();
        utf8();
        wrongPlaces();
        CHECKS.finish();
    }

    private static void means(String text, String due) {
        MessageTree tree = CHECKS.stands("subject:" + text + "\r\n\r\n", 1);
        CHECKS.same("subject " + text, Mail.subjectOf(tree), due);
    }

    private static void staysAsItStands(String text) {
        means(" " + text, text);
    }

    private static void plain() {
        means("", "");
        means("  \t ", "");
        means("  a  b\t", "a  b");
        means(" a\r\n  b\r\n \r\n", "a  b");
        means("(a) \"b\" <c> \\", "(a) \"b\" <c> \\");
    }

    private static void encoded() {
        means("=?us-ascii?q?a=41_=3D=3F?=", "aA =?");
        means(" =?US-ASCII?Q?a!b=FF=7F=00?= ", "a!b" + UNKNOWN + "\177\0");
        means("=?ISO-8859-1?q?=E9=80=FF?=", "\u00e9\u0080\u00ff");
        means("=?Utf-8?b?4oKsQQ==?=", "\u20acA");
        means("=?utf-8?B?QUI=?=", "AB");
        means("=?utf-8?B?QUJD?=", "ABC");
        means("=?utf-8?Q?\"(),;:<>@?=", "\"(),;:<>@");
        means("x =?utf-8?q?a?=\ty", "x a\ty");
        means("x\t=?utf-8?q?a?= y", "x\ta y");
        means("=?us-ascii?q?" + "a".repeat(60) + "?=", "a".repeat(60));
    }

    private static void blanksBetween() {
        means("=?utf-8?q?a?= =?utf-8?q?b?=", "ab");
        means("=?utf-8?q?a?= \t  =?utf-8?q?b?=\r\n =?utf-8?q?c?=", "abc");
        means("=?utf-8?q?a?=  x  =?utf-8?q?b?=", "a  x  b");
        means("=?utf-8?q?a_?= =?utf-8?q?_b?=", "a  b");
        means("=?utf-8?q?=C3?= =?utf-8?q?=A9?=", UNKNOWN + UNKNOWN);
        means("=?utf-8?q?a?=  =?utf-8?q?b=?=  =?utf-8?q?c?=", "a  =?utf-8?q?b=?=  c");
    }

    private static void noEncodedWords() {
        staysAsItStands("=?us-ascii?q?" + "a".repeat(61) + "?=");
        staysAsItStands("x=?utf-8?q?a?=");
        staysAsItStands("=?utf-8?q?a?=x");
        staysAsItStands("x?utf-8?q?a?=");
        staysAsItStands("=xutf-8?q?a?=");
        staysAsItStands("=?utf-8xq?a?=");
        staysAsItStands("=?utf-8?qxa?=");
        staysAsItStands("=?utf-8?q?a?x");
        staysAsItStands("=?utf-8?q?a?==?utf-8?q?b?=");
        staysAsItStands("=?utf-8?q?a");
        staysAsItStands("=?utf-8?q?a?");
        staysAsItStands("=?utf-8?q?=");
        staysAsItStands("=?utf-8?q??=");
        staysAsItStands("=?utf-8?b??=");
        staysAsItStands("=?utf-8?x?a?=");
        staysAsItStands("=?utf-8?qq?a?=");
        staysAsItStands("=?utf-8??a?=");
        staysAsItStands("=?utf-9?q?a?=");
        staysAsItStands("=?utf-8*en?q?a?=");
        staysAsItStands("=??q?a?=");
        staysAsItStands("=?utf-8?q?a?b?=");
        staysAsItStands("=?utf-8?q?a b?=");
        staysAsItStands("=?utf-8?q?=e9?=");
        staysAsItStands("=?utf-8?q?=4?=");
        staysAsItStands("=?utf-8?q?a=?=");
        staysAsItStands("=?utf-8?b?QQ=?=");
        staysAsItStands("=?utf-8?b?QQ?=");
        staysAsItStands("=?utf-8?b?Q===?=");
        staysAsItStands("=?utf-8?b?QR==?=");
        staysAsItStands("=?utf-8?b?QUJ=?=");
        staysAsItStands("=?utf-8?b?QQ==QQ==?=");
        staysAsItStands("=?utf-8?b?QQ=Q?=");
        staysAsItStands("=?utf-8?b?====?=");
        staysAsItStands("=?utf-8?b?QQ-_?=");
        staysAsItStands("=?=");
        staysAsItStands("=?");
        staysAsItStands("=");
        staysAsItStands("?=");
    }

    private static void utf8() {
        means("=?utf-8?q?=C2=80=DF=BF?=", "\u0080\u07ff");
        means("=?utf-8?q?=E0=A0=80=EF=BF=BF?=", "\u0800\uffff");
        means("=?utf-8?q?=F0=90=80=80=F4=8F=BF=BF?=", "\ud800\udc00\udbff\udfff");
        means("=?utf-8?q?=C0=80?=", UNKNOWN.repeat(2));
        means("=?utf-8?q?=C1=BF?=", UNKNOWN.repeat(2));
        means("=?utf-8?q?=E0=9F=BF?=", UNKNOWN.repeat(3));
        means("=?utf-8?q?=F0=8F=BF=BF?=", UNKNOWN.repeat(4));
        means("=?utf-8?q?=ED=A0=80?=", UNKNOWN.repeat(3));
        means("=?utf-8?q?=ED=BF=BF?=", UNKNOWN.repeat(3));
        means("=?utf-8?q?=ED=9F=BF=EE=80=80?=", "\ud7ff\ue000");
        means("=?utf-8?q?=F4=90=80=80?=", UNKNOWN.repeat(4));
        means("=?utf-8?q?=F5=80=80=80?=", UNKNOWN.repeat(4));
        means("=?utf-8?q?=80a=BF?=", UNKNOWN + "a" + UNKNOWN);
        means("=?utf-8?q?=E2=82a?=", UNKNOWN.repeat(2) + "a");
        means("=?utf-8?q?=E2=C3=A9?=", UNKNOWN + "\u00e9");
        means("=?utf-8?q?=F0=9F=98?=", UNKNOWN.repeat(3));
        means("=?utf-8?q?=FF=FE?=", UNKNOWN.repeat(2));
    }

    private static void wrongPlaces() {
        MessageTree tree = CHECKS.stands("subject: =?utf-8?q?=F0=9F=98=80?=x\r\nsubjects: no\r\n\r\n", 1);
        CHECKS.same("as it stands", tree.subject(-1), 25);
        MessageTree one = CHECKS.stands("subject: =?utf-8?q?=F0=9F=98=80?=\r\n\r\n", 1);
        CHECKS.same("size", one.subject(-1), 1);
        CHECKS.same("point", one.subject(0), 0x1f600);
        CHECKS.outside("point 1", () -> one.subject(1));
        CHECKS.outside("point -2", () -> one.subject(-2));
        CHECKS.outside("point far away", () -> one.subject(Integer.MAX_VALUE));
        CHECKS.same("without a subject", CHECKS.stands("\r\n", 1).subject(-1), 0);
    }
}
