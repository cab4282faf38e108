/** Counts the answers of one test that are not as due, and says which. */
final class Due {
    private int wrong = 0;
    private int asked = 0;

    void is(String what, long got, long want) {
        asked++;
        if (got != want) {
            say(what + " answered " + got + ", due is " + want);
        }
    }

    void same(String what, String got, String want) {
        asked++;
        if (!got.equals(want)) {
            say(what + ":\n  " + got + "\n  due is\n  " + want);
        }
    }

    private void say(String text) {
        wrong++;
        if (wrong <= 50) {
            System.out.println(text);
        }
    }

    void end() {
        System.out.println(asked + " answers, " + wrong + " not as due");
        if (wrong != 0) {
            System.exit(1);
        }
    }

    /** A new PAD with this text. */
    static void write(DebtChoir choir, String text) {
        choir.wipe();
        for (int i = 0; i < text.length(); i++) {
            choir.say(text.charAt(i));
        }
    }
}
