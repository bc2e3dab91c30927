/** Promises 10, 11 and 12. */
public final class RunTest {
    private static final Checks CHECKS = new Checks();

    public static void main(String[] args) {
        emptyProgram();
        aroundTheLimit();
        tiredInTheMiddle();
        doneWithTheLastStepBehindALoop();
        registersAreKept();
        theLastRunCounts();
        aTiredRunStartsAnew();
        askingChangesNothing();
        CHECKS.end("RunTest");
    }

    private static void ended(String run, PairLegaliser x, int ending, int worked) {
        CHECKS.due("run() " + run, x.run(), ending);
        CHECKS.due("ending() " + run, x.ending(), ending);
        CHECKS.due("worked() " + run, x.worked(), worked);
    }

    private static void emptyProgram() {
        PairLegaliser x = new PairLegaliser();
        CHECKS.due("ending() before a run", x.ending(), PairLegaliser.NO_RUN);
        CHECKS.due("worked() before a run", x.worked(), 0);
        ended("of no instruction", x, PairLegaliser.DONE, 0);
    }

    private static void aroundTheLimit() {
        for (int n = 0; n <= 310; n++) {
            PairLegaliser x = new PairLegaliser();
            x.loop(2, 0);
            x.set(2, n);
            boolean reached = n + 1 <= 300;
            ended("of " + (n + 1), x, reached ? PairLegaliser.DONE : PairLegaliser.TIRED, reached ? n + 1 : 300);
            CHECKS.due("the counter left", x.get(2), reached ? 0 : n - 300);
        }
    }

    /** The 300th instruction falls into the body of a loop: what follows it is not worked off. */
    private static void tiredInTheMiddle() {
        PairLegaliser x = new PairLegaliser();
        x.set(0, 1000);
        x.set(5, 1);
        x.append(0, 4, 4, 4);
        x.append(1, 1, 1, 5);
        x.append(1, 2, 2, 5);
        x.loop(0, 1);
        ended("of a long loop", x, PairLegaliser.TIRED, 300);
        CHECKS.due("get(1)", x.get(1), 100);
        CHECKS.due("get(2)", x.get(2), 100);
        CHECKS.due("get(0)", x.get(0), 901);
    }

    private static void doneWithTheLastStepBehindALoop() {
        for (int counter = 147; counter <= 151; counter++) {
            PairLegaliser x = new PairLegaliser();
            x.append(0, 1, 1, 1);
            x.loop(0, 0);
            x.append(0, 2, 2, 2);
            x.append(0, 3, 3, 3);
            x.set(0, counter);
            int need = 2 * (counter + 1) + 2;
            ended("of " + need, x, need <= 300 ? PairLegaliser.DONE : PairLegaliser.TIRED, need <= 300 ? need : 300);
        }
        // The loop itself takes 299 here, so that one instruction behind it fits and a second one does not.
        PairLegaliser x = new PairLegaliser();
        x.set(0, 298);
        x.set(1, 1);
        x.loop(0, 0);
        x.append(1, 2, 1, 1);
        ended("of exactly 300", x, PairLegaliser.DONE, 300);
        x.set(0, 298);
        x.set(2, 0);
        x.append(1, 3, 1, 1);
        ended("of 301", x, PairLegaliser.TIRED, 300);
        CHECKS.due("get(2)", x.get(2), 2);
        CHECKS.due("get(3)", x.get(3), 0);
    }

    private static void registersAreKept() {
        PairLegaliser x = new PairLegaliser();
        x.set(0, 1);
        x.append(1, 0, 0, 0);
        for (int i = 1; i <= 70; i++) {
            ended("number " + i, x, PairLegaliser.DONE, 1);
            CHECKS.due("get(0) after run " + i, x.get(0), i < 64 ? 1L << i : 0);
        }
    }

    private static void theLastRunCounts() {
        PairLegaliser x = new PairLegaliser();
        x.loop(0, 0);
        x.set(0, 500);
        ended("that is long", x, PairLegaliser.TIRED, 300);
        x.set(0, 5);
        ended("that is short", x, PairLegaliser.DONE, 6);
        x.clear();
        ended("of nothing", x, PairLegaliser.DONE, 0);
        x.loop(0, 0);
        x.set(0, -1);
        ended("that is long again", x, PairLegaliser.TIRED, 300);
    }

    /** A run after a tired one begins at instruction 0, with the registers as they were left. */
    private static void aTiredRunStartsAnew() {
        PairLegaliser x = new PairLegaliser();
        x.set(0, 400);
        x.set(5, 1);
        x.append(1, 1, 1, 5);
        x.loop(0, 1);
        ended("from 400", x, PairLegaliser.TIRED, 300);
        CHECKS.due("get(0)", x.get(0), 101);
        ended("from 101", x, PairLegaliser.DONE, 103);
        CHECKS.due("get(1)", x.get(1), 2);
    }

    private static void askingChangesNothing() {
        PairLegaliser x = new PairLegaliser();
        x.set(3, 77);
        x.append(1, 3, 3, 3);
        x.run();
        String before = Checks.seen(x);
        CHECKS.same("asking", x, before);
        x.run();
        CHECKS.due("get(3)", x.get(3), 308);
    }
}
