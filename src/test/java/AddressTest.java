/** Promises 14 and 15: addresses. */
public final class AddressTest {
    private static final Checks CHECKS = new Checks("AddressTest");

    public static void main(String[] args) {
        addresses();
        manyAddresses();
        wrongAddresses();
        longOnes();
        wrongPlaces();
        CHECKS.finish();
    }

    private static String from(String text) {
        return "from:" + text + "\r\n\r\n";
    }

    private static void isAddress(String text, String due) {
        MessageTree tree = CHECKS.stands(from(text), 1);
        CHECKS.same("addresses in " + text, tree.addresses(5), 1);
        CHECKS.same("address " + text, Mail.addressOf(tree, 5, 0), due);
    }

    private static void addresses() {
        isAddress("a@b", "|a|b");
        isAddress(" A.B.C@D.E.F ", "|A.B.C|d.e.f");
        isAddress("<a@b>", "|a|b");
        isAddress("x<a@b>", "x|a|b");
        isAddress("X Y\t \"z  \\\"\\\\\\z\" (no) w <a.b@C>(no)", "X Y z  \"\\z w|a.b|c");
        isAddress("\"a b\"@c", "|a b|c");
        isAddress("\"\"@c", "||c");
        isAddress("\"\" \"\"<\"<@>\"@c>", " |<@>|c");
        isAddress("\"a\"\"b\"c<d@e>", "a b c|d|e");
        isAddress("(a) b (c) @ (d) e (f)", "|b|e");
        isAddress("(a) b (c) < (d) e.f (g) @ (h) i.j (k) > (l)", "b|e.f|i.j");
        isAddress("\r\n a\r\n <\r\n b\r\n @\r\n c\r\n >\r\n (d)", "a|b|c");
        isAddress("!#$%&'*+-/=?^_`{|}~@!#$%&'*+-/=?^_`{|}~Z", "|!#$%&'*+-/=?^_`{|}~|!#$%&'*+-/=?^_`{|}~z");
        isAddress("\"a\r\n b\"@c", "|a b|c");
        isAddress("\"(a)\" <b@c>", "(a)|b|c");
    }

    private static void manyAddresses() {
        MessageTree tree = CHECKS.stands("to: a@b\r\nfrom: c@d,E <f@g> , \"h\"@i\r\n\r\n", 1);
        CHECKS.same("to", tree.addresses(6), 1);
        CHECKS.same("from", tree.addresses(5), 3);
        CHECKS.same("to 0", Mail.addressOf(tree, 6, 0), "|a|b");
        CHECKS.same("from 0", Mail.addressOf(tree, 5, 0), "|c|d");
        CHECKS.same("from 1", Mail.addressOf(tree, 5, 1), "E|f|g");
        CHECKS.same("from 2", Mail.addressOf(tree, 5, 2), "|h|i");
        MessageTree whole = CHECKS.stands("to: a@b, C <d@e>\r\nsubject: s\r\nfrom: f@g\r\n\r\nbody", 1);
        CHECKS.same("to beside a body", Mail.addressOf(whole, 6, 0) + " " + Mail.addressOf(whole, 6, 1), "|a|b C|d|e");
        CHECKS.same("from beside a body", Mail.addressOf(whole, 5, 0), "|f|g");
        CHECKS.same("body beside addresses", Mail.subjectOf(whole) + Mail.body(whole, 0), "sbody");
        String ten = "a0@b,a1@b,a2@b,a3@b,a4@b,a5@b,a6@b,a7@b,a8@b,Nine <a9@b>";
        MessageTree most = CHECKS.stands(from(ten), 1);
        CHECKS.same("ten", most.addresses(5), 10);
        CHECKS.same("the tenth", Mail.addressOf(most, 5, 9), "Nine|a9|b");
        CHECKS.faultAtMark(from(ten + ", (x) ↑a@b"));
        CHECKS.faultAtMark(from(ten + ", ↑,"));
        CHECKS.faultAtMark(from(ten + ",↑"));
        CHECKS.same("no field", CHECKS.stands("a: b\r\n\r\n", 1).addresses(6), 0);
        MessageTree again = CHECKS.stands(from(ten), 1);
        Mail.put(again, from("x@y"));
        again.read();
        CHECKS.same("the newer message's", again.addresses(5), 1);
        CHECKS.outside("none of the older one", () -> again.address(5, 1, 0, -1));
        CHECKS.same("the newer name", Mail.addressOf(again, 5, 0), "|x|y");
    }

    private static void wrongAddresses() {
        CHECKS.faultAtMark(from("↑"));
        CHECKS.faultAtMark(from("  ↑"));
        CHECKS.faultAtMark(from("(x)↑"));
        CHECKS.faultAtMark(from("↑,a@b"));
        CHECKS.faultAtMark(from("a@b,↑"));
        CHECKS.faultAtMark(from("a@b,↑,c@d"));
        CHECKS.faultAtMark(from("a@b ↑c@d"));
        CHECKS.faultAtMark(from("a@b↑;c@d"));
        CHECKS.faultAtMark(from("a↑"));
        CHECKS.faultAtMark(from("a ↑,b@c"));
        CHECKS.faultAtMark(from("\"a\"↑"));
        CHECKS.faultAtMark(from("\"a↑"));
        CHECKS.faultAtMark(from("\"a\\↑"));
        CHECKS.faultAtMark(from("↑.a@b"));
        CHECKS.faultAtMark(from("a.↑.b@c"));
        CHECKS.faultAtMark(from("a.↑@c"));
        CHECKS.faultAtMark(from("a.↑ b@c"));
        CHECKS.faultAtMark(from("a ↑.b@c"));
        CHECKS.faultAtMark(from("a.\r\n↑ b@c"));
        CHECKS.faultAtMark(from("a.b ↑<c@d>"));
        CHECKS.faultAtMark(from("a.b↑"));
        CHECKS.faultAtMark(from("a.b ↑c"));
        CHECKS.faultAtMark(from("a.↑\"b\"@c"));
        CHECKS.faultAtMark(from("\"a\"↑.b@c"));
        CHECKS.faultAtMark(from("a b↑.c <d@e>"));
        CHECKS.faultAtMark(from("a b↑@c"));
        CHECKS.faultAtMark(from("a \"b\" ↑@c"));
        CHECKS.faultAtMark(from("a\"b\"↑@c"));
        CHECKS.faultAtMark(from("a@↑"));
        CHECKS.faultAtMark(from("a@↑\"b\""));
        CHECKS.faultAtMark(from("a@↑.b"));
        CHECKS.faultAtMark(from("a@b.↑"));
        CHECKS.faultAtMark(from("a@b.↑ c"));
        CHECKS.faultAtMark(from("a@b ↑.c"));
        CHECKS.faultAtMark(from("a@b↑@c"));
        CHECKS.faultAtMark(from("a@b↑>"));
        CHECKS.faultAtMark(from("a@b ↑<c@d>"));
        CHECKS.faultAtMark(from("a <↑>"));
        CHECKS.faultAtMark(from("a <b↑>"));
        CHECKS.faultAtMark(from("a <↑<b@c>>"));
        CHECKS.faultAtMark(from("a <b ↑c@d>"));
        CHECKS.faultAtMark(from("a <b@c↑"));
        CHECKS.faultAtMark(from("a <b@c↑,d@e"));
        CHECKS.faultAtMark(from("a <b@c>↑>"));
        CHECKS.faultAtMark(from("a <b@c> ↑d"));
        CHECKS.faultAtMark(from("a <\"b\" ↑\"c\"@d>"));
        CHECKS.faultAtMark(from("↑[a]@b"));
        CHECKS.faultAtMark(from("a@↑[b]"));
        CHECKS.faultAtMark("to: a@ ↑\r\nfrom: c\r\n\r\n");
    }

    private static void longOnes() {
        String sixty = "a".repeat(60);
        isAddress(sixty + "." + sixty + "@" + sixty + "." + sixty, "|" + sixty + "." + sixty + "|" + sixty + "." + sixty);
        isAddress(sixty + " " + sixty + " <b@c>", sixty + " " + sixty + "|b|c");
        CHECKS.faultAtMark(from(sixty + "↑a@b"));
        CHECKS.faultAtMark(from("x." + sixty + "↑a@b"));
        CHECKS.faultAtMark(from("x@" + sixty + "↑a"));
        CHECKS.faultAtMark(from("x " + sixty + "↑a <b@c>"));
        String quoted = "q".repeat(400);
        isAddress("\"" + quoted + "\" <\"" + quoted + "\"@c>", quoted + "|" + quoted + "|c");
        String most = ("m".repeat(997) + "\r\n ").repeat(7) + "n";
        isAddress("\r\n \"\r\n " + most + "\" <a@b>", " " + most.replace("\r\n", "") + "|a|b");
    }

    private static void wrongPlaces() {
        MessageTree tree = CHECKS.stands(from("Ab <c@de>"), 1);
        CHECKS.same("name's second", tree.address(5, 0, 0, 1), 'b');
        CHECKS.same("domain's size", tree.address(5, 0, 2, -1), 2);
        for (int kind : new int[] {-1, 0, 4, 7, Integer.MAX_VALUE, Integer.MIN_VALUE}) {
            CHECKS.refused("addresses of kind " + kind, IllegalArgumentException.class, () -> tree.addresses(kind));
            CHECKS.refused("address of kind " + kind, IllegalArgumentException.class, () -> tree.address(kind, 9, 9, 9));
        }
        CHECKS.outside("address 1", () -> tree.address(5, 1, 0, -1));
        CHECKS.outside("address -1", () -> tree.address(5, -1, 0, -1));
        CHECKS.outside("address of to", () -> tree.address(6, 0, 0, -1));
        CHECKS.outside("which 3", () -> tree.address(5, 0, 3, -1));
        CHECKS.outside("which -1", () -> tree.address(5, 0, -1, -1));
        CHECKS.outside("byte behind", () -> tree.address(5, 0, 0, 2));
        CHECKS.outside("byte before", () -> tree.address(5, 0, 0, -2));
    }
}
