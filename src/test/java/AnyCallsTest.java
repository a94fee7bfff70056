import java.util.Random;

/** Any call with any numbers answers, or throws what the document names for it, and nothing else. */
public final class AnyCallsTest {
    private static final Checks CHECKS = new Checks("AnyCallsTest");
    private static final int[] NUMBERS = {-1, 0, 1, 2, 3, 5, 6, 7, 9, 10, 19, 20, 39, 40, 199, 200, 8000, -2,
        Integer.MAX_VALUE, Integer.MIN_VALUE};

    private static Random random;

    public static void main(String[] args) {
        for (int seed = 0; seed < 3000; seed++) {
            random = new Random(seed);
            RandomMail mails = new RandomMail(seed);
            MessageTree tree = new MessageTree();
            for (int k = 0; k < 8; k++) {
                String message = mails.message();
                String given = random.nextBoolean() ? message : mails.spoilt(message);
                if (given.length() <= 8000) {
                    readAndAsk(tree, given);
                }
            }
        }
        noise();
        CHECKS.finish();
    }

    private static void noise() {
        MessageTree tree = new MessageTree();
        for (int k = 0; k < 20000; k++) {
            tree.feed(random.nextInt(), random.nextInt(), random.nextInt(), random.nextInt(), random.nextInt());
            int answer = tree.read();
            CHECKS.same("noise", answer < -21 || answer > 40 ? answer : 0, 0);
        }
    }

    private static void readAndAsk(MessageTree tree, String message) {
        try {
            Mail.put(tree, message);
            int answer = tree.read();
            boolean possible = answer >= 1 && answer <= 40 || answer < 0 && -1 - answer <= message.length();
            CHECKS.same("read of " + Mail.shown(message), possible ? 0 : answer, 0);
        } catch (RuntimeException thrown) {
            CHECKS.same("read of " + Mail.shown(message), thrown.toString(), "nothing thrown");
        }
        for (int k = 0; k < 60; k++) {
            askSomething(tree, random.nextInt(15), message);
        }
    }

    private static int any() {
        return NUMBERS[random.nextInt(NUMBERS.length)];
    }

    private static void askSomething(MessageTree tree, int call, String message) {
        String due = call == 0 ? "IllegalArgumentException" : call == 11 || call == 13 ? "IllegalStateException"
                : call == 9 ? "IllegalArgumentException" : "IndexOutOfBoundsException";
        try {
            ask(tree, call);
        } catch (RuntimeException thrown) {
            String got = thrown.getClass().getSimpleName();
            boolean right = got.equals(due) || call == 10 && got.equals("IllegalArgumentException");
            CHECKS.same("call " + call + " behind " + Mail.shown(message), right ? "" : thrown.toString(), "");
        }
    }

    private static void ask(MessageTree tree, int call) {
        switch (call) {
            case 0 -> tree.end(any());
            case 1 -> tree.entity(any(), any());
            case 2 -> tree.part(any(), any());
            case 3 -> tree.octet(any(), any());
            case 4 -> tree.kind(any(), any());
            case 5 -> tree.letter(any(), any(), any(), any());
            case 6 -> tree.type(any(), any(), any());
            case 7 -> tree.parameter(any(), any(), any(), any());
            case 8 -> tree.subject(any());
            case 9 -> tree.addresses(any());
            case 10 -> tree.address(any(), any(), any(), any());
            case 11 -> tree.write();
            case 12 -> tree.out(any());
            case 13 -> tree.again();
            default -> tree.date(any());
        }
    }
}
