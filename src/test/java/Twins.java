/**
 * Two objects that were made alike: one of them is called as the document
 * refuses it, and they are alike still. All that can be seen of them is
 * compared, their images too, in less than 512 calls.
 */
final class Twins {
    interface Made {
        DebtChoir make();
    }

    interface Call {
        long of(DebtChoir x);
    }

    private final Due due;

    Twins(Due due) {
        this.due = due;
    }

    /** Refused, and refused again, and nothing is changed by it. */
    void refused(String what, Made made, Call call, long refusal) {
        DebtChoir called = made.make();
        due.is(what, call.of(called), refusal);
        due.is(what + ": again", call.of(called), refusal);
        due.same(what + ": changes nothing", seen(called), seen(made.make()));
    }

    /** Answered, and nothing is changed by it. */
    void asked(String what, Made made, Call call, long answer) {
        refused(what, made, call, answer);
    }

    /** This uses the object up: its images are restored. */
    private static String seen(DebtChoir x) {
        StringBuilder all = new StringBuilder("now ");
        now(x, all);
        behind(x, all);
        for (int k = 0; k < 2; k++) {
            all.append("\n  image ").append(x.restore(k)).append(": ");
            now(x, all);
        }
        all.append("\n  signs ").append(x.wipe());
        return all.toString();
    }

    private static void now(DebtChoir x, StringBuilder all) {
        for (int what = 0; what <= 3; what++) {
            tell(all, x.told(what));
        }
        for (int singer = 0; singer < 8; singer++) {
            for (int detail = 0; detail < 4; detail++) {
                tell(all, x.told(10 * (1 + singer) + detail));
            }
        }
        for (int piece = 0; piece < 6; piece++) {
            for (int detail = 0; detail < 6; detail++) {
                tell(all, x.told(100 + 10 * piece + detail));
            }
        }
        int rows = x.holds(-1);
        for (int i = 0; i < rows && i < 12; i++) {
            tell(all, x.holds(i));
        }
        tell(all, rows);
    }

    private static void behind(DebtChoir x, StringBuilder all) {
        tell(all, x.fault());
        for (int what = 0; what < 3; what++) {
            tell(all, x.judge(what));
            for (int singer = 0; singer < 8; singer++) {
                tell(all, x.behind(singer, what));
            }
        }
        for (int what = 0; what < 2; what++) {
            tell(all, x.owed(what));
            tell(all, x.freed(what));
        }
    }

    private static void tell(StringBuilder all, int number) {
        all.append(number).append(' ');
    }
}
