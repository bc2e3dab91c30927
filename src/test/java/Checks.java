/** Counts the answers that are not as due, and ends a test with exit code 1 if there was one. */
final class Checks {
    private static final long MOST_SECONDS = 300;

    private int asked = 0;
    private int wrong = 0;

    Checks() {
        Thread watch = new Thread(Checks::endLate);
        watch.setDaemon(true);
        watch.start();
    }

    /** A call that fails to end must fail its test, not hold it up; no test needs more than a few seconds. */
    private static void endLate() {
        try {
            Thread.sleep(MOST_SECONDS * 1000);
        } catch (InterruptedException stopped) {
            return;
        }
        System.out.println("not ended after " + MOST_SECONDS + " seconds: a call does not end");
        Runtime.getRuntime().halt(1);
    }

    void due(String call, long got, long want) {
        asked++;
        if (got != want) {
            wrong++;
            System.out.println(call + " answered " + got + ", due is " + want);
        }
    }

    void due(String what, boolean holds) {
        due(what, holds ? 1 : 0, 1);
    }

    /** A test of its own for one sentence of the document; whatever fails in it is told with the sentence's words. */
    void sentence(String words, Runnable test) {
        int askedBefore = asked;
        int wrongBefore = wrong;
        try {
            test.run();
        } catch (RuntimeException thrown) {
            wrong++;
            System.out.println("a call threw " + thrown);
        }
        if (asked == askedBefore) {
            due("the sentence is asked for", false);
        }
        if (wrong != wrongBefore) {
            System.out.println("  does not hold: " + words);
        }
    }

    /** Everything of the object that can be asked for without changing it. */
    static String seen(PairLegaliser x) {
        StringBuilder all = new StringBuilder();
        for (int r = 0; r < 6; r++) {
            all.append(x.get(r)).append(' ').append(x.sign(r)).append(' ').append(x.ones(r)).append(", ");
        }
        all.append(x.size()).append(' ').append(x.ending()).append(' ').append(x.worked());
        return all.append(' ').append(x.total()).toString();
    }

    void same(String call, PairLegaliser x, String before) {
        String after = seen(x);
        if (!after.equals(before)) {
            System.out.println("before: " + before);
            System.out.println("after:  " + after);
        }
        due(call + " changes nothing", after.equals(before));
    }

    void end(String test) {
        System.out.println(test + ": " + asked + " answers, " + wrong + " not as due");
        if (asked == 0 || wrong != 0) {
            System.exit(1);
        }
    }
}
