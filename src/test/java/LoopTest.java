/** Promise 3, and what a loop does in a run. */
public final class LoopTest {
    private static final Checks CHECKS = new Checks();

    public static void main(String[] args) {
        wrongArguments();
        everyPlaceUpToItsOwn();
        full();
        boundFollowsTheSize();
        fallsThroughAtZero();
        countsDown();
        goesBackToTheMiddle();
        loopInALoop();
        counterOfManyDigits();
        negativeCounter();
        CHECKS.end("LoopTest");
    }

    private static PairLegaliser withMoves(int n) {
        PairLegaliser x = new PairLegaliser();
        for (int i = 0; i < n; i++) {
            x.append(0, 0, 0, 0);
        }
        return x;
    }

    private static void wrongArguments() {
        for (int n = 0; n <= 16; n++) {
            PairLegaliser x = withMoves(n);
            String before = Checks.seen(x);
            for (int a : new int[] {Integer.MIN_VALUE, -1, 6, 16, Integer.MAX_VALUE}) {
                CHECKS.due("loop(" + a + ", 0) at size " + n, x.loop(a, 0), PairLegaliser.BAD_ARG);
            }
            for (int k : new int[] {Integer.MIN_VALUE, -1, n + 1, n + 2, 300, Integer.MAX_VALUE}) {
                CHECKS.due("loop(0, " + k + ") at size " + n, x.loop(0, k), PairLegaliser.BAD_ARG);
            }
            CHECKS.same("a refused loop at size " + n, x, before);
        }
    }

    private static void everyPlaceUpToItsOwn() {
        for (int n = 0; n < 16; n++) {
            for (int k = 0; k <= n; k++) {
                PairLegaliser x = withMoves(n);
                CHECKS.due("loop(5, " + k + ") at size " + n, x.loop(5, k), n);
                CHECKS.due("size()", x.size(), n + 1);
                x.set(5, 2);
                CHECKS.due("run()", x.run(), PairLegaliser.DONE);
                CHECKS.due("worked() of loop(5, " + k + ") at " + n, x.worked(), n + 1 + 2 * (n - k + 1));
            }
        }
    }

    /** A loop after 16 instructions would get the number 16, so that k is within its range. */
    private static void full() {
        PairLegaliser x = withMoves(16);
        String before = Checks.seen(x);
        for (int k = 0; k <= 16; k++) {
            CHECKS.due("loop(0, " + k + ") in a full program", x.loop(0, k), PairLegaliser.FULL);
        }
        CHECKS.same("a loop in a full program", x, before);
        CHECKS.due("run()", x.run(), PairLegaliser.DONE);
        CHECKS.due("worked()", x.worked(), 16);
    }

    private static void boundFollowsTheSize() {
        PairLegaliser x = withMoves(5);
        x.unappend();
        x.unappend();
        CHECKS.due("loop(0, 4) after unappend", x.loop(0, 4), PairLegaliser.BAD_ARG);
        CHECKS.due("loop(0, 3) after unappend", x.loop(0, 3), 3);
        x.clear();
        CHECKS.due("loop(0, 1) after clear", x.loop(0, 1), PairLegaliser.BAD_ARG);
        CHECKS.due("loop(0, 0) after clear", x.loop(0, 0), 0);
    }

    private static void fallsThroughAtZero() {
        PairLegaliser x = new PairLegaliser();
        x.set(1, 7);
        x.loop(0, 0);
        x.append(1, 1, 1, 1);
        CHECKS.due("run()", x.run(), PairLegaliser.DONE);
        CHECKS.due("worked()", x.worked(), 2);
        CHECKS.due("get(0)", x.get(0), 0);
        CHECKS.due("get(1)", x.get(1), 14);
    }

    private static void countsDown() {
        for (int a = 0; a < 6; a++) {
            PairLegaliser x = new PairLegaliser();
            int sum = (a + 1) % 6;
            int step = (a + 2) % 6;
            x.set(a, 9);
            x.set(step, 3);
            x.append(1, sum, sum, step);
            x.loop(a, 0);
            CHECKS.due("run()", x.run(), PairLegaliser.DONE);
            CHECKS.due("worked()", x.worked(), 20);
            CHECKS.due("the sum", x.get(sum), 30);
            CHECKS.due("the counter", x.get(a), 0);
            CHECKS.due("the step", x.get(step), 3);
        }
    }

    private static void goesBackToTheMiddle() {
        PairLegaliser x = new PairLegaliser();
        x.set(0, 4);
        x.set(5, 1);
        x.append(1, 1, 1, 5);
        x.append(1, 2, 2, 5);
        x.append(1, 3, 3, 5);
        x.loop(0, 1);
        x.append(1, 4, 4, 5);
        CHECKS.due("run()", x.run(), PairLegaliser.DONE);
        CHECKS.due("get(1)", x.get(1), 1);
        CHECKS.due("get(2)", x.get(2), 5);
        CHECKS.due("get(3)", x.get(3), 5);
        CHECKS.due("get(4)", x.get(4), 1);
        CHECKS.due("worked()", x.worked(), 1 + 3 * 5 + 1);
    }

    private static void loopInALoop() {
        PairLegaliser x = new PairLegaliser();
        x.set(0, 3);
        x.set(2, 4);
        x.set(4, 1);
        x.append(0, 1, 2, 0);
        x.append(1, 3, 3, 4);
        x.loop(1, 1);
        x.loop(0, 0);
        CHECKS.due("run()", x.run(), PairLegaliser.DONE);
        CHECKS.due("get(3)", x.get(3), 4 * 5);
        CHECKS.due("worked()", x.worked(), 4 * (1 + 2 * 5 + 1));
    }

    /** The whole register is looked at, not its lowest 32 digits alone. */
    private static void counterOfManyDigits() {
        PairLegaliser x = new PairLegaliser();
        x.set(0, 1L << 32);
        x.loop(0, 0);
        CHECKS.due("run()", x.run(), PairLegaliser.TIRED);
        CHECKS.due("get(0)", x.get(0), (1L << 32) - 300);
    }

    private static void negativeCounter() {
        PairLegaliser x = new PairLegaliser();
        x.loop(0, 0);
        x.set(0, -1);
        CHECKS.due("run() from -1", x.run(), PairLegaliser.TIRED);
        CHECKS.due("get(0)", x.get(0), -301);
        x.set(0, Long.MIN_VALUE);
        CHECKS.due("run() from the least long", x.run(), PairLegaliser.TIRED);
        CHECKS.due("get(0)", x.get(0), Long.MAX_VALUE - 299);
    }
}
