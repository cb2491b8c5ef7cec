/** Counts and prints the answers that are not the ones due. */
final class Check {
    private static final int LINES_SHOWN = 20;

    private String sentence = "";
    private int wrong = 0;
    private int asked = 0;

    /** Runs one test under the words of the document that it holds the program to. */
    void sentence(String words, Runnable test) {
        int wrongBefore = wrong;
        int askedBefore = asked;
        sentence = words + " | ";
        try {
            test.run();
        } catch (RuntimeException thrown) {
            miss("a call threw " + thrown);
        }
        if (asked == askedBefore) {
            miss("the test asked nothing");
        }
        sentence = "";
        if (wrong > wrongBefore) {
            System.out.println("BROKEN: " + words);
        }
    }

    void due(String call, long want, long got) {
        asked++;
        if (want != got) {
            miss(call + " answered " + got + ", due is " + want);
        }
    }

    void due(String call, boolean want, boolean got) {
        asked++;
        if (want != got) {
            miss(call + " answered " + got + ", due is " + want);
        }
    }

    void due(String what, String want, String got) {
        asked++;
        if (!want.equals(got)) {
            miss(what + " is\n" + got + "\n  due is\n" + want);
        }
    }

    /** What the last packet did, router by router and link by link. */
    void record(String what, DenseCast x, int[] received, int[] carried) {
        for (int router = 0; router < received.length; router++) {
            due(what + ": received(" + router + ")", received[router], x.received(router));
        }
        for (int link = 0; link < carried.length; link++) {
            due(what + ": carried(" + link + ")", carried[link], x.carried(link));
        }
    }

    /** The timers of a source, link by link. */
    void timers(String what, DenseCast x, int source, int... left) {
        for (int link = 0; link < left.length; link++) {
            due(what + ": pruneLeft(" + source + ", " + link + ")", left[link], x.pruneLeft(source, link));
        }
    }

    private void miss(String text) {
        wrong++;
        if (wrong <= LINES_SHOWN) {
            System.out.println(sentence + text);
        }
    }

    boolean failed() {
        return wrong != 0;
    }

    void finish() {
        System.out.println(wrong + " of " + asked + " answers are not as due");
        if (wrong != 0) {
            System.exit(1);
        }
    }
}
