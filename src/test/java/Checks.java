/** Counts answers, prints each that is not as due, and ends the run with code 1 if there was one. */
final class Checks {
    private final String name;
    private String asked = "";
    private int done;
    private int wrong;

    Checks(String name) {
        this.name = name;
    }

    /** Words of the document: what follows is due by them, and a wrong answer is printed with them. */
    void asked(String words) {
        asked = words;
    }

    void same(String what, long got, long due) {
        judge(what, got == due, String.valueOf(got), String.valueOf(due));
    }

    void same(String what, String got, String due) {
        judge(what, got.equals(due), Mail.shown(got), Mail.shown(due));
    }

    void refused(String what, Class<? extends RuntimeException> due, Runnable call) {
        String got = "nothing thrown";
        try {
            call.run();
        } catch (RuntimeException thrown) {
            got = thrown.getClass().getName();
        }
        judge(what, got.equals(due.getName()), got, due.getName());
    }

    void outside(String what, Runnable call) {
        refused(what, IndexOutOfBoundsException.class, call);
    }

    /** A message is read whole, and has so many entities. */
    MessageTree stands(String message, int entities) {
        MessageTree tree = new MessageTree();
        Mail.put(tree, message);
        same("read of " + Mail.shown(message), tree.read(), entities);
        return tree;
    }

    /** A message has its fault at the mark ↑ (which is no part of it). */
    void faultAtMark(String marked) {
        int mark = marked.indexOf('↑');
        MessageTree tree = new MessageTree();
        Mail.put(tree, Mail.withoutMark(marked));
        same("read of " + Mail.shown(marked), tree.read(), -1 - mark);
    }

    /** A message of one entity stands whole, mark or no mark, or has its fault at the mark. */
    void standsOrFaults(String marked, boolean stands) {
        if (stands) {
            stands(Mail.withoutMark(marked), 1);
        } else {
            faultAtMark(marked);
        }
    }

    private void judge(String what, boolean right, String got, String due) {
        done++;
        if (!right) {
            wrong++;
            System.out.println(name + ": " + what + " answered " + got + ", due is " + due + " by: " + asked);
        }
    }

    void finish() {
        System.out.println(name + ": " + (done - wrong) + " of " + done + " answers are as due");
        if (wrong > 0) {
            System.exit(1);
        }
    }
}
