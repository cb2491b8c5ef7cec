/** Counts and prints the answers that are not the ones due. */
final class Check {
    private int wrong = 0;
    private int asked = 0;

    void due(String call, long want, long got) {
        asked++;
        if (want != got) {
            miss(call + " answered " + got + ", due is " + want);
        }
    }

    void due(String call, boolean want, boolean got) {
        asked++;
        if (want != got) {
            miss(call + " answered " + got + ", due is " + want);
        }
    }

    void due(String what, String want, String got) {
        asked++;
        if (!want.equals(got)) {
            miss(what + " is\n" + got + "\n  due is\n" + want);
        }
    }

    private void miss(String text) {
        wrong++;
        if (wrong <= 20) {
            System.out.println(text);
        }
    }

    boolean failed() {
        return wrong != 0;
    }

    void finish() {
        System.out.println(wrong + " of " + asked + " answers are not as due");
        if (wrong != 0) {
            System.exit(1);
        }
    }
}
