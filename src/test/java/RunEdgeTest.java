/** The boundary sentences of promises 10, 11 and 12. */
public final class RunEdgeTest {
    private static final Checks CHECKS = new Checks();

    public static void main(String[] args) {
        CHECKS.sentence("10: A run (of an empty program)", RunEdgeTest::emptyProgram);
        CHECKS.sentence("10: A run (up to the last instruction it may work off)", RunEdgeTest::lastStep);
        CHECKS.sentence("10: Answers DONE or TIRED", RunEdgeTest::runAnswers);
        CHECKS.sentence("11: How the last run ended", RunEdgeTest::endingOfTheLast);
        CHECKS.sentence("11: or NO_RUN", RunEdgeTest::noEnding);
        CHECKS.sentence("12: How many instructions the last run worked off", RunEdgeTest::workedOfTheLast);
        CHECKS.sentence("12: 0 if there was none", RunEdgeTest::noneWorked);
        CHECKS.end("RunEdgeTest");
    }

    private static void emptyProgram() {
        PairLegaliser x = new PairLegaliser();
        for (int r = 0; r <= 5; r++) {
            x.set(r, Long.MIN_VALUE + r);
        }
        CHECKS.due("run() of a new object", x.run(), PairLegaliser.DONE);
        CHECKS.due("worked()", x.worked(), 0);
        for (int r = 0; r <= 5; r++) {
            CHECKS.due("get(" + r + ")", x.get(r), Long.MIN_VALUE + r);
        }
        PairLegaliser y = Edges.program(16);
        y.clear();
        CHECKS.due("run() after clear", y.run(), PairLegaliser.DONE);
        CHECKS.due("worked() after clear", y.worked(), 0);
        PairLegaliser z = Edges.program(1);
        z.unappend();
        CHECKS.due("run() after unappend", z.run(), PairLegaliser.DONE);
        CHECKS.due("worked() after unappend", z.worked(), 0);
    }

    /** A loop of 1 to 16 instructions that needs n in all: up to n = 300 all of it is worked off, no more than 300 ever. */
    private static void lastStep() {
        for (int length = 1; length <= 16; length++) {
            for (int turns = 300 / length - 2; turns <= 300 / length + 2; turns++) {
                if (turns > 0) {
                    turned(length, turns);
                }
            }
        }
    }

    private static void turned(int length, int turns) {
        PairLegaliser x = new PairLegaliser();
        x.set(0, turns - 1);
        x.set(5, 1);
        for (int i = 1; i < length; i++) {
            x.append(1, 1, 1, 5);
        }
        x.loop(0, 0);
        int need = length * turns;
        int worked = need <= 300 ? need : 300;
        String at = " of " + turns + " times " + length;
        CHECKS.due("run()" + at, x.run(), need <= 300 ? PairLegaliser.DONE : PairLegaliser.TIRED);
        CHECKS.due("worked()" + at, x.worked(), worked);
        CHECKS.due("get(1)" + at, x.get(1), worked - worked / length);
        CHECKS.due("get(0)" + at, x.get(0), need <= 300 ? 0 : turns - 1 - 300 / length);
    }

    private static PairLegaliser looped(long counter) {
        PairLegaliser x = new PairLegaliser();
        x.loop(0, 0);
        x.set(0, counter);
        return x;
    }

    private static void runAnswers() {
        CHECKS.due("run() of 1", looped(0).run(), PairLegaliser.DONE);
        CHECKS.due("run() of 300", looped(299).run(), PairLegaliser.DONE);
        CHECKS.due("run() of 301", looped(300).run(), PairLegaliser.TIRED);
        CHECKS.due("run() without an end", looped(-1).run(), PairLegaliser.TIRED);
        PairLegaliser x = looped(599);
        CHECKS.due("run() of 600", x.run(), PairLegaliser.TIRED);
        CHECKS.due("run() of the 300 left", x.run(), PairLegaliser.DONE);
    }

    private static void endingOfTheLast() {
        PairLegaliser x = looped(299);
        x.run();
        CHECKS.due("ending() of 300", x.ending(), PairLegaliser.DONE);
        x.set(0, 300);
        CHECKS.due("ending() after set", x.ending(), PairLegaliser.DONE);
        x.run();
        CHECKS.due("ending() of 301", x.ending(), PairLegaliser.TIRED);
        CHECKS.due("ending() asked again", x.ending(), PairLegaliser.TIRED);
        x.append(0, 0, 0, 0);
        CHECKS.due("ending() after append", x.ending(), PairLegaliser.TIRED);
        x.unappend();
        CHECKS.due("ending() after unappend", x.ending(), PairLegaliser.TIRED);
        x.clear();
        CHECKS.due("ending() after clear", x.ending(), PairLegaliser.TIRED);
        x.run();
        CHECKS.due("ending() of a run of nothing", x.ending(), PairLegaliser.DONE);
        x.append(0, 6, 0, 0);
        CHECKS.due("ending() after a refused append", x.ending(), PairLegaliser.DONE);
    }

    private static void noEnding() {
        PairLegaliser x = new PairLegaliser();
        CHECKS.due("ending() of a new object", x.ending(), PairLegaliser.NO_RUN);
        x.set(0, -1);
        x.loop(0, 0);
        x.append(0, 0, 0, 0);
        x.unappend();
        x.total();
        CHECKS.due("ending() with a program that was not run", x.ending(), PairLegaliser.NO_RUN);
        x.clear();
        CHECKS.due("ending() after clear", x.ending(), PairLegaliser.NO_RUN);
    }

    private static void workedOfTheLast() {
        PairLegaliser x = looped(299);
        x.run();
        CHECKS.due("worked() of 300", x.worked(), 300);
        x.run();
        CHECKS.due("worked() of 1", x.worked(), 1);
        x.set(0, 300);
        CHECKS.due("worked() after set", x.worked(), 1);
        x.run();
        CHECKS.due("worked() of 301", x.worked(), 300);
        CHECKS.due("worked() asked again", x.worked(), 300);
        x.append(0, 0, 0, 0);
        CHECKS.due("worked() after append", x.worked(), 300);
        x.unappend();
        CHECKS.due("worked() after unappend", x.worked(), 300);
        x.clear();
        CHECKS.due("worked() after clear", x.worked(), 300);
        x.run();
        CHECKS.due("worked() of a run of nothing", x.worked(), 0);
    }

    private static void noneWorked() {
        PairLegaliser x = new PairLegaliser();
        CHECKS.due("worked() of a new object", x.worked(), 0);
        for (int i = 0; i < 16; i++) {
            x.append(0, 0, 0, 0);
        }
        CHECKS.due("worked() with a program that was not run", x.worked(), 0);
        x.clear();
        CHECKS.due("worked() after clear", x.worked(), 0);
    }
}
