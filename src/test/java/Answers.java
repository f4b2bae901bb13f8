/** Counts and prints the answers that are not the ones that are due. */
final class Answers {
    /** Far above what any test takes: past it, a call has failed to end. */
    private static final long MILLIS = 300_000;

    private int wrong;
    private String sentence = "";

    Answers() {
        Thread watch = new Thread(Answers::failWhenLate);
        watch.setDaemon(true);
        watch.start();
    }

    private static void failWhenLate() {
        try {
            Thread.sleep(MILLIS);
        } catch (InterruptedException early) {
            return;
        }
        System.out.println("a call does not end");
        Runtime.getRuntime().halt(1);
    }

    /** One case of its own: what goes wrong in it is told with the sentence it stands for. */
    void test(String sentence, Runnable calls) {
        this.sentence = "[" + sentence + "] ";
        try {
            calls.run();
        } catch (RuntimeException | StackOverflowError thrown) {
            tell("a call threw " + thrown);
        }
        this.sentence = "";
    }

    void due(String call, long got, long want) {
        if (got != want) {
            tell(call + " answered " + got + ", due is " + want);
        }
    }

    void holds(String claim, boolean truth) {
        if (!truth) {
            tell("does not hold: " + claim);
        }
    }

    private void tell(String what) {
        wrong++;
        System.out.println(sentence + what);
    }

    void end() {
        System.out.println(wrong == 0 ? "all answers are as due" : wrong + " answers are not as due");
        if (wrong != 0) {
            System.exit(1);
        }
    }
}
