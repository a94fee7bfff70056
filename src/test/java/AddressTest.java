/** Terms 2 as to ATOM, DOTTED and the texts of kinds 5 and 6; promises 14 and 15. */
public final class AddressTest {
    private static final Checks CHECKS = new Checks("AddressTest");

    public static void main(String[] args) {
        specs();
        names();
        smallDomains();
        bytesOfAtoms();
        bytesBehindAtoms();
        sizesOfAtoms();
        dotted();
        wordOrLocalPart();
        wrongSpecs();
        quotedOnes();
        tenAddresses();
        bothKinds();
        newerMessage();
        addressesAnswers();
        addressAnswers();
        CHECKS.finish();
    }

    private static String from(String text) {
        return "from:" + text + "\r\n\r\n";
    }

    private static void isAddress(String text, String due) {
        MessageTree tree = CHECKS.stands(from(text), 1);
        CHECKS.same("addresses in " + text, tree.addresses(5), 1);
        CHECKS.same("address " + text, Mail.addressOf(tree, 5, 0), due);
    }

    private static void specs() {
        CHECKS.asked("SPEC: a LOCAL part, DOTTED or QUOTED; @; a DOMAIN, DOTTED.");
        isAddress("a@b", "|a|b");
        isAddress(" A.B.C@D.E.F ", "|A.B.C|d.e.f");
        isAddress("\"a b\"@c", "|a b|c");
        isAddress("\"\"@c", "||c");
        isAddress("\"a\r\n b\"@c", "|a b|c");
        isAddress("(a) b (c) @ (d) e (f)", "|b|e");
        isAddress("!#$%&'*+-/=?^_`{|}~@!#$%&'*+-/=?^_`{|}~Z", "|!#$%&'*+-/=?^_`{|}~|!#$%&'*+-/=?^_`{|}~z");
    }

    private static void names() {
        CHECKS.asked("Its NAME: its words, one blank between (QUOTED as they are meant).");
        isAddress("<a@b>", "|a|b");
        isAddress("x<a@b>", "x|a|b");
        isAddress("\"x\"<a@b>", "x|a|b");
        isAddress("X Y\t \"z  \\\"\\\\\\z\" (no) w <a.b@C>(no)", "X Y z  \"\\z w|a.b|c");
        isAddress("\"\" \"\"<\"<@>\"@c>", " |<@>|c");
        isAddress("\"\"<a@b>", "|a|b");
        isAddress("\"a\"\"b\"c<d@e>", "a b c|d|e");
        isAddress("a\"b\"c<d@e>", "a b c|d|e");
        isAddress("(a) b (c) < (d) e.f (g) @ (h) i.j (k) > (l)", "b|e.f|i.j");
        isAddress("\r\n a\r\n <\r\n b\r\n @\r\n c\r\n >\r\n (d)", "a|b|c");
        isAddress("\"(a)\" <b@c>", "(a)|b|c");
        isAddress("a (b)\r\n\t c     d <e@f>", "a c d|e|f");
    }

    private static void smallDomains() {
        CHECKS.asked("what is told of TYPES, names of parameters, and domains has small ones");
        String great = "ABCDEFGHIJKLMNOPQRSTUVWXYZ";
        isAddress(great + " <" + great + "@" + great + "." + great + ">", great + "|" + great + "|"
                + great.toLowerCase() + "." + great.toLowerCase());
    }

    private static void bytesOfAtoms() {
        CHECKS.asked("ATOM: 1 .. 60 letters, digits, ! # $ % & ' * + - / = ? ^ _ ` { | } ~ (a 61st cannot stand)");
        for (char c : Mail.BYTES) {
            if (c != ' ' && c != '\t' && c != '(') {
                boolean right = Mail.isIn(Mail.ATOM_BYTES, c);
                if (c != '"' && c != '<') {
                    CHECKS.standsOrFaults(from("↑" + c + "@b"), right);
                }
                if (c != '"' && c != '<' && c != '@') {
                    CHECKS.standsOrFaults(from("x ↑" + c + " <a@b>"), right);
                }
                if (c != '"') {
                    CHECKS.standsOrFaults(from("<↑" + c + "@b>"), right);
                }
                CHECKS.standsOrFaults(from("a@↑" + c), right);
                CHECKS.standsOrFaults(from("a.↑" + c + "@b"), right);
                CHECKS.standsOrFaults(from("a@b.↑" + c), right);
            }
        }
    }

    private static void bytesBehindAtoms() {
        CHECKS.asked("ATOM: 1 .. 60 letters, digits, ! # $ % & ' * + - / = ? ^ _ ` { | } ~ (a 61st cannot stand)");
        for (char c : Mail.BYTES) {
            if (c != ' ' && c != '\t' && c != '(' && c != '.') {
                boolean right = Mail.isIn(Mail.ATOM_BYTES, c);
                if (c != '"' && c != '<' && c != '@') {
                    CHECKS.standsOrFaults(from("x↑" + c + "@b"), right);
                    CHECKS.standsOrFaults(from("x y↑" + c + "<a@b>"), right);
                }
                if (c != '@') {
                    CHECKS.standsOrFaults(from("<x↑" + c + "@b>"), right);
                }
                if (c != ',') {
                    CHECKS.standsOrFaults(from("a@x↑" + c), right);
                }
                if (c != '>') {
                    CHECKS.standsOrFaults(from("<a@x↑" + c + ">"), right);
                }
                if (c != ',') {
                    CHECKS.faultAtMark(from("<c@d>↑" + c));
                }
            }
        }
    }

    private static void sizesOfAtoms() {
        CHECKS.asked("ATOM: 1 .. 60 letters, digits, ! # $ % & ' * + - / = ? ^ _ ` { | } ~ (a 61st cannot stand)");
        String sixty = "a".repeat(60);
        isAddress(sixty + "." + sixty + "@" + sixty + "." + sixty, "|" + sixty + "." + sixty + "|" + sixty + "." + sixty);
        isAddress(sixty + " " + sixty + " <b@c>", sixty + " " + sixty + "|b|c");
        isAddress("<" + sixty + "@" + sixty + ">", "|" + sixty + "|" + sixty);
        CHECKS.faultAtMark(from(sixty + "↑a@b"));
        CHECKS.faultAtMark(from(sixty + "↑a <b@c>"));
        CHECKS.faultAtMark(from("x." + sixty + "↑a@b"));
        CHECKS.faultAtMark(from("x@" + sixty + "↑a"));
        CHECKS.faultAtMark(from("x@y." + sixty + "↑a"));
        CHECKS.faultAtMark(from("x " + sixty + "↑a <b@c>"));
        CHECKS.faultAtMark(from("\"x\" " + sixty + "↑aaa <b@c>"));
        CHECKS.faultAtMark(from("<" + sixty + "↑a@b>"));
        CHECKS.faultAtMark(from("<x." + sixty + "↑a@b>"));
        CHECKS.faultAtMark(from("<x@" + sixty + "↑a>"));
    }

    private static void dotted() {
        CHECKS.asked("DOTTED: one or more ATOMS with one . between (nothing else).");
        isAddress("a.b.c.d.e.f.g.h.i.j.k.l@a.b.c.d.e.f.g.h.i.j.k.l", "|a.b.c.d.e.f.g.h.i.j.k.l|a.b.c.d.e.f.g.h.i.j.k.l");
        CHECKS.faultAtMark(from("↑.a@b"));
        CHECKS.faultAtMark(from("a.↑.b@c"));
        CHECKS.faultAtMark(from("a.↑@c"));
        CHECKS.faultAtMark(from("a.↑"));
        CHECKS.faultAtMark(from("a.↑ b@c"));
        CHECKS.faultAtMark(from("a.↑(x)b@c"));
        CHECKS.faultAtMark(from("a ↑.b@c"));
        CHECKS.faultAtMark(from("a.\r\n↑ b@c"));
        CHECKS.faultAtMark(from("a.↑\"b\"@c"));
        CHECKS.faultAtMark(from("<a ↑.b@c>"));
        CHECKS.faultAtMark(from("<a.↑ b@c>"));
        CHECKS.faultAtMark(from("<↑.a@b>"));
        CHECKS.faultAtMark(from("a@↑.b"));
        CHECKS.faultAtMark(from("a@b.↑"));
        CHECKS.faultAtMark(from("a@b.↑.c"));
        CHECKS.faultAtMark(from("a@b.↑ c"));
        CHECKS.faultAtMark(from("a@b ↑.c"));
        CHECKS.faultAtMark(from("a@b(x)↑.c"));
        CHECKS.faultAtMark(from("<a@b.↑>"));
    }

    private static void wordOrLocalPart() {
        CHECKS.asked("So one ATOM or QUOTED alone may be a WORD or a LOCAL part: by what follows");
        isAddress("a @b", "|a|b");
        isAddress("a <b@c>", "a|b|c");
        isAddress("\"a\" (x) @b", "|a|b");
        isAddress("\"a\" (x) <b@c>", "a|b|c");
        CHECKS.faultAtMark(from("a↑"));
        CHECKS.faultAtMark(from("a ↑,b@c"));
        CHECKS.faultAtMark(from("a↑>"));
        CHECKS.faultAtMark(from("\"a\"↑"));
        CHECKS.faultAtMark(from("\"a\"↑,b@c"));
        CHECKS.faultAtMark(from("a b↑@c"));
        CHECKS.faultAtMark(from("a b↑"));
        CHECKS.faultAtMark(from("a b↑,c@d"));
        CHECKS.faultAtMark(from("a \"b\" ↑@c"));
        CHECKS.faultAtMark(from("\"a\"b↑@c"));
        CHECKS.faultAtMark(from("a\"b\"↑@c"));
        CHECKS.asked("a . behind an ATOM stands only in a LOCAL part that begins the address, or follows <");
        isAddress("a.b@c", "|a.b|c");
        isAddress("<a.b@c>", "|a.b|c");
        isAddress("x <a.b@c>", "x|a.b|c");
        CHECKS.faultAtMark(from("a.b ↑<c@d>"));
        CHECKS.faultAtMark(from("a.b↑"));
        CHECKS.faultAtMark(from("a.b ↑c"));
        CHECKS.faultAtMark(from("a.b ↑\"c\"@d"));
        CHECKS.faultAtMark(from("\"a\"↑.b@c"));
        CHECKS.faultAtMark(from("<\"a\"↑.b@c>"));
        CHECKS.faultAtMark(from("a b↑.c <d@e>"));
        CHECKS.faultAtMark(from("\"a\" b↑.c <d@e>"));
    }

    private static void wrongSpecs() {
        CHECKS.asked("SPEC; or none or more WORDS (ATOM or QUOTED) and < SPEC >.");
        CHECKS.faultAtMark(from("↑@b"));
        CHECKS.faultAtMark(from("a@↑"));
        CHECKS.faultAtMark(from("a@↑@b"));
        CHECKS.faultAtMark(from("a@↑\"b\""));
        CHECKS.faultAtMark(from("a@b↑@c"));
        CHECKS.faultAtMark(from("a@b↑>"));
        CHECKS.faultAtMark(from("a@b ↑<c@d>"));
        CHECKS.faultAtMark(from("a@b ↑c@d"));
        CHECKS.faultAtMark(from("a@b↑;c@d"));
        CHECKS.faultAtMark(from("<↑"));
        CHECKS.faultAtMark(from("a <↑>"));
        CHECKS.faultAtMark(from("a <b↑>"));
        CHECKS.faultAtMark(from("a <b@↑>"));
        CHECKS.faultAtMark(from("a <↑<b@c>>"));
        CHECKS.faultAtMark(from("a <b ↑c@d>"));
        CHECKS.faultAtMark(from("a <b@c↑"));
        CHECKS.faultAtMark(from("a <b@c ↑d>"));
        CHECKS.faultAtMark(from("a <b@c↑,d@e"));
        CHECKS.faultAtMark(from("a <b@c>↑>"));
        CHECKS.faultAtMark(from("a <b@c> ↑d"));
        CHECKS.faultAtMark(from("a <b@c> ↑<d@e>"));
        CHECKS.faultAtMark(from("a <\"b\" ↑\"c\"@d>"));
        CHECKS.faultAtMark(from("↑[a]@b"));
        CHECKS.faultAtMark(from("a@↑[b]"));
        CHECKS.faultAtMark("to: a@ ↑\r\nfrom: c\r\n\r\n");
    }

    private static void quotedOnes() {
        CHECKS.asked("QUOTED: \", bytes but \" and \\ , or \\ and any byte, \".");
        for (char c : Mail.BYTES) {
            if (c != '"' && c != '\\') {
                CHECKS.standsOrFaults(from("\"↑" + c + "\"@b"), Mail.inField(c));
            }
            CHECKS.standsOrFaults(from("\"\\↑" + c + "\" <\"\\" + c + "\"@b>"), Mail.inField(c));
        }
        isAddress("\"\\a\\\"\\\\\\ \\\t\"@b", "|a\"\\ \t|b");
        CHECKS.faultAtMark(from("\"↑"));
        CHECKS.faultAtMark(from("\"a↑"));
        CHECKS.faultAtMark(from("\"a\\↑"));
        CHECKS.faultAtMark(from("x \"a\\\"↑"));
        CHECKS.faultAtMark(from("<\"a↑"));
        // Only a VALUE has at most 100 bytes.
        String quoted = "q".repeat(400);
        isAddress("\"" + quoted + "\" <\"" + quoted + "\"@c>", quoted + "|" + quoted + "|c");
        String most = ("m".repeat(997) + "\r\n ").repeat(7) + "n";
        isAddress("\r\n \"\r\n " + most + "\" <a@b>", " " + most.replace("\r\n", "") + "|a|b");
    }

    private static void tenAddresses() {
        CHECKS.asked("one to ten ADDRESSES with , between (an eleventh cannot stand at its first byte)");
        CHECKS.faultAtMark(from("↑"));
        CHECKS.faultAtMark(from("  ↑"));
        CHECKS.faultAtMark(from("(x)↑"));
        CHECKS.faultAtMark(from("↑,a@b"));
        CHECKS.faultAtMark(from("a@b,↑"));
        CHECKS.faultAtMark(from("a@b,↑,c@d"));
        CHECKS.faultAtMark(from("a@b ↑c@d"));
        String nine = "a0@b,a1@b,a2@b,a3@b,a4@b,a5@b,a6@b,a7@b,a8@b";
        CHECKS.same("nine", CHECKS.stands(from(nine), 1).addresses(5), 9);
        String ten = nine + ",Nine <a9@b>";
        MessageTree most = CHECKS.stands(from(ten), 1);
        CHECKS.same("ten", most.addresses(5), 10);
        for (int n = 0; n < 10; n++) {
            CHECKS.same("address " + n, Mail.addressOf(most, 5, n), (n == 9 ? "Nine" : "") + "|a" + n + "|b");
        }
        CHECKS.faultAtMark(from(ten + ", (x) ↑a@b"));
        CHECKS.faultAtMark(from(ten + ",↑\"a\"@b"));
        CHECKS.faultAtMark(from(ten + ",↑<a@b>"));
        CHECKS.faultAtMark(from(ten + ", ↑,"));
        CHECKS.faultAtMark(from(ten + ",↑"));
        CHECKS.faultAtMark(from(ten + ", (x↑"));
        CHECKS.faultAtMark(from(ten + " ↑a@b"));
        CHECKS.faultAtMark("to:" + ten + ",↑a@b\r\n\r\n");
        CHECKS.stands("to:" + ten + "\r\nfrom:" + ten + "\r\n\r\n", 1);
    }

    private static void bothKinds() {
        CHECKS.asked("How many ADDRESSES the message has in its field of kind 5 or 6; 0 without.");
        MessageTree tree = CHECKS.stands("to: a@b\r\nfrom: c@d,E <f@g> , \"h\"@i\r\n\r\n", 1);
        CHECKS.same("to", tree.addresses(6), 1);
        CHECKS.same("from", tree.addresses(5), 3);
        CHECKS.same("to 0", Mail.addressOf(tree, 6, 0), "|a|b");
        CHECKS.same("from 0", Mail.addressOf(tree, 5, 0), "|c|d");
        CHECKS.same("from 1", Mail.addressOf(tree, 5, 1), "E|f|g");
        CHECKS.same("from 2", Mail.addressOf(tree, 5, 2), "|h|i");
        MessageTree whole = CHECKS.stands("to: a@b, C <d@e>\r\nsubject: s\r\nfrom: f@g\r\n\r\nbody", 1);
        CHECKS.same("to beside a body", Mail.addressOf(whole, 6, 0) + " " + Mail.addressOf(whole, 6, 1), "|a|b C|d|e");
        CHECKS.same("from beside a body", Mail.addressOf(whole, 5, 0), "|f|g");
        CHECKS.same("body beside addresses", Mail.subjectOf(whole) + Mail.body(whole, 0), "sbody");
        MessageTree part = CHECKS.stands("content-type: multipart/x; boundary=b\r\n\r\n--b\r\nto: a@b\r\nfrom: ?;\r\n\r\n\r\n--b--", 2);
        CHECKS.same("none of a part", part.addresses(5) + part.addresses(6), 0);
    }

    private static void newerMessage() {
        CHECKS.asked("How many ADDRESSES the message has in its field of kind 5 or 6; 0 without.");
        MessageTree tree = CHECKS.stands(from("a@b,c@d,E <f@g>"), 1);
        Mail.put(tree, from("x@y"));
        tree.read();
        CHECKS.same("the newer message's", tree.addresses(5), 1);
        CHECKS.outside("none of the older one", () -> tree.address(5, 1, 0, -1));
        CHECKS.same("the newer one", Mail.addressOf(tree, 5, 0), "|x|y");
        Mail.put(tree, "to: n@m\r\n\r\n");
        tree.read();
        CHECKS.same("no from any more", tree.addresses(5), 0);
        CHECKS.same("but a to", Mail.addressOf(tree, 6, 0), "|n|m");
    }

    private static void addressesAnswers() {
        CHECKS.asked("0 without. IllegalArgumentException: another kind.");
        MessageTree none = CHECKS.stands("a: b\r\n\r\n", 1);
        CHECKS.same("no from", none.addresses(5), 0);
        CHECKS.same("no to", none.addresses(6), 0);
        MessageTree from = CHECKS.stands(from("Ab <c@de>"), 1);
        for (MessageTree tree : new MessageTree[] {new MessageTree(), none, from}) {
            for (int kind : new int[] {-1, 0, 1, 2, 3, 4, 7, 8, Integer.MAX_VALUE, Integer.MIN_VALUE}) {
                CHECKS.refused("addresses(" + kind + ")", IllegalArgumentException.class, () -> tree.addresses(kind));
                CHECKS.refused("address(" + kind + ")", IllegalArgumentException.class, () -> tree.address(kind, 0, 0, -1));
                CHECKS.refused("address(" + kind + ")", IllegalArgumentException.class, () -> tree.address(kind, 9, 9, 9));
            }
        }
    }

    private static void addressAnswers() {
        CHECKS.asked("which = 0 its NAME, 1 its LOCAL part (QUOTED as it is meant), 2 its DOMAIN: byte k; k = NONE: how many.");
        MessageTree tree = CHECKS.stands(from("Ab <c@de>, f@g"), 1);
        CHECKS.same("name's size", tree.address(5, 0, 0, -1), 2);
        CHECKS.same("name's first", tree.address(5, 0, 0, 0), 'A');
        CHECKS.same("name's last", tree.address(5, 0, 0, 1), 'b');
        CHECKS.same("local part's size", tree.address(5, 0, 1, -1), 1);
        CHECKS.same("local part's first", tree.address(5, 0, 1, 0), 'c');
        CHECKS.same("domain's size", tree.address(5, 0, 2, -1), 2);
        CHECKS.same("domain's last", tree.address(5, 0, 2, 1), 'e');
        CHECKS.same("no name's size", tree.address(5, 1, 0, -1), 0);
        CHECKS.asked("IllegalArgumentException: another kind; IndexOutOfBoundsException.");
        CHECKS.outside("no name's first", () -> tree.address(5, 1, 0, 0));
        CHECKS.outside("name's byte 2 of 2", () -> tree.address(5, 0, 0, 2));
        CHECKS.outside("local part's byte 1 of 1", () -> tree.address(5, 0, 1, 1));
        CHECKS.outside("domain's byte 2 of 2", () -> tree.address(5, 0, 2, 2));
        CHECKS.outside("address 2 of 2", () -> tree.address(5, 2, 0, -1));
        CHECKS.outside("address -1", () -> tree.address(5, -1, 0, -1));
        CHECKS.outside("address of no to", () -> tree.address(6, 0, 0, -1));
        CHECKS.outside("address -1 of no to", () -> tree.address(6, -1, 0, -1));
        CHECKS.outside("which 3", () -> tree.address(5, 0, 3, -1));
        CHECKS.outside("which -1", () -> tree.address(5, 1, -1, -1));
        for (int n : Mail.NO_PLACES) {
            CHECKS.outside("address " + n, () -> tree.address(5, n, 0, -1));
            CHECKS.outside("which " + n, () -> tree.address(5, 0, n, -1));
            CHECKS.outside("byte " + n, () -> tree.address(5, 0, 0, n));
        }
    }
}
