/** The boundary sentences of promises 1 to 6. */
public final class ProgramEdgeTest {
    private static final Checks CHECKS = new Checks();

    public static void main(String[] args) {
        CHECKS.sentence("1: All registers are 0", ProgramEdgeTest::newRegisters);
        CHECKS.sentence("1: no instruction", ProgramEdgeTest::newProgram);
        CHECKS.sentence("1: no run yet", ProgramEdgeTest::newRun);
        CHECKS.sentence("2: op not 0 to 15 answers BAD_ARG", ProgramEdgeTest::appendOp);
        CHECKS.sentence("2: d not 0 to 5 answers BAD_ARG", ProgramEdgeTest::appendD);
        CHECKS.sentence("2: a not 0 to 5 answers BAD_ARG", ProgramEdgeTest::appendA);
        CHECKS.sentence("2: b not 0 to 5 answers BAD_ARG", ProgramEdgeTest::appendB);
        CHECKS.sentence("2: Tested in this order: BAD_ARG; FULL", ProgramEdgeTest::appendOrder);
        CHECKS.sentence("2: FULL", ProgramEdgeTest::appendFull);
        CHECKS.sentence("2: Otherwise its number", ProgramEdgeTest::appendNumber);
        CHECKS.sentence("3: a not 0 to 5 answers BAD_ARG", ProgramEdgeTest::loopA);
        CHECKS.sentence("3: k not 0 to the number that this instruction would get answers BAD_ARG", ProgramEdgeTest::loopK);
        CHECKS.sentence("3: Tested in this order: BAD_ARG; FULL", ProgramEdgeTest::loopOrder);
        CHECKS.sentence("3: FULL", ProgramEdgeTest::loopFull);
        CHECKS.sentence("3: Otherwise its number", ProgramEdgeTest::loopNumber);
        CHECKS.sentence("4: The number of instructions", ProgramEdgeTest::size);
        CHECKS.sentence("5: Removes the last instruction", ProgramEdgeTest::unappendRemoves);
        CHECKS.sentence("5: BAD_ARG if there is none", ProgramEdgeTest::unappendOfNone);
        CHECKS.sentence("5: Otherwise the number it had", ProgramEdgeTest::unappendNumber);
        CHECKS.sentence("6: Removes all instructions", ProgramEdgeTest::clear);
        CHECKS.end("ProgramEdgeTest");
    }

    private static void newRegisters() {
        PairLegaliser x = new PairLegaliser();
        for (int r = 0; r <= 5; r++) {
            CHECKS.due("get(" + r + ")", x.get(r), 0);
        }
    }

    private static void newProgram() {
        PairLegaliser x = new PairLegaliser();
        CHECKS.due("size()", x.size(), 0);
        CHECKS.due("unappend()", x.unappend(), PairLegaliser.BAD_ARG);
        CHECKS.due("run()", x.run(), PairLegaliser.DONE);
        CHECKS.due("worked()", x.worked(), 0);
        CHECKS.due("the first append", new PairLegaliser().append(0, 0, 0, 0), 0);
    }

    private static void newRun() {
        CHECKS.due("ending()", new PairLegaliser().ending(), PairLegaliser.NO_RUN);
        CHECKS.due("worked()", new PairLegaliser().worked(), 0);
    }

    private static void appendOp() {
        for (int op : Edges.NO_OPS) {
            CHECKS.due("append(" + op + ", 0, 0, 0)", new PairLegaliser().append(op, 0, 0, 0), PairLegaliser.BAD_ARG);
            CHECKS.due("append(" + op + ", 5, 5, 5)", Edges.program(15).append(op, 5, 5, 5), PairLegaliser.BAD_ARG);
        }
        CHECKS.due("append(0, 0, 0, 0)", Edges.program(15).append(0, 0, 0, 0), 15);
        CHECKS.due("append(15, 0, 0, 0)", Edges.program(15).append(15, 0, 0, 0), 15);
    }

    private static void appendD() {
        for (int op = 0; op <= 15; op++) {
            for (int d : Edges.NO_REGISTERS) {
                CHECKS.due("append(" + op + ", " + d + ", 0, 0)", Edges.program(3).append(op, d, 0, 0), PairLegaliser.BAD_ARG);
            }
            CHECKS.due("append(" + op + ", 0, 3, 3)", Edges.program(3).append(op, 0, 3, 3), 3);
            CHECKS.due("append(" + op + ", 5, 3, 3)", Edges.program(3).append(op, 5, 3, 3), 3);
        }
    }

    private static void appendA() {
        for (int op = 0; op <= 15; op++) {
            for (int a : Edges.NO_REGISTERS) {
                CHECKS.due("append(" + op + ", 0, " + a + ", 0)", Edges.program(3).append(op, 0, a, 0), PairLegaliser.BAD_ARG);
            }
            CHECKS.due("append(" + op + ", 3, 0, 3)", Edges.program(3).append(op, 3, 0, 3), 3);
            CHECKS.due("append(" + op + ", 3, 5, 3)", Edges.program(3).append(op, 3, 5, 3), 3);
        }
    }

    /** Of move, low, ulow and high too: the sentence makes no difference between the numbers. */
    private static void appendB() {
        for (int op = 0; op <= 15; op++) {
            for (int b : Edges.NO_REGISTERS) {
                CHECKS.due("append(" + op + ", 0, 0, " + b + ")", Edges.program(3).append(op, 0, 0, b), PairLegaliser.BAD_ARG);
            }
            CHECKS.due("append(" + op + ", 3, 3, 0)", Edges.program(3).append(op, 3, 3, 0), 3);
            CHECKS.due("append(" + op + ", 3, 3, 5)", Edges.program(3).append(op, 3, 3, 5), 3);
        }
    }

    private static void appendOrder() {
        for (PairLegaliser x : new PairLegaliser[] {Edges.program(16), Edges.fullOfLoops()}) {
            for (int op : Edges.NO_OPS) {
                CHECKS.due("append(" + op + ", 0, 0, 0), full", x.append(op, 0, 0, 0), PairLegaliser.BAD_ARG);
            }
            for (int r : Edges.NO_REGISTERS) {
                CHECKS.due("append(0, " + r + ", 0, 0), full", x.append(0, r, 0, 0), PairLegaliser.BAD_ARG);
                CHECKS.due("append(0, 0, " + r + ", 0), full", x.append(0, 0, r, 0), PairLegaliser.BAD_ARG);
                CHECKS.due("append(0, 0, 0, " + r + "), full", x.append(0, 0, 0, r), PairLegaliser.BAD_ARG);
                CHECKS.due("append(-1, " + r + ", " + r + ", " + r + "), full", x.append(-1, r, r, r), PairLegaliser.BAD_ARG);
            }
        }
    }

    private static void appendFull() {
        PairLegaliser x = Edges.program(15);
        CHECKS.due("the 16th append", x.append(1, 0, 0, 0), 15);
        CHECKS.due("the 17th append", x.append(1, 0, 0, 0), PairLegaliser.FULL);
        CHECKS.due("the 17th append with the greatest arguments", x.append(15, 5, 5, 5), PairLegaliser.FULL);
        x.unappend();
        CHECKS.due("append after unappend", x.append(1, 0, 0, 0), 15);
        CHECKS.due("one more", x.append(1, 0, 0, 0), PairLegaliser.FULL);
        CHECKS.due("append behind 16 loops", Edges.fullOfLoops().append(0, 0, 0, 0), PairLegaliser.FULL);
    }

    private static void appendNumber() {
        for (int n = 0; n <= 15; n++) {
            PairLegaliser x = Edges.program(n);
            x.append(16, 0, 0, 0);
            CHECKS.due("append at size " + n, x.append(n, 0, 5, 0), n);
        }
    }

    private static void loopA() {
        for (int a : Edges.NO_REGISTERS) {
            CHECKS.due("loop(" + a + ", 0)", new PairLegaliser().loop(a, 0), PairLegaliser.BAD_ARG);
            CHECKS.due("loop(" + a + ", 15)", Edges.program(15).loop(a, 15), PairLegaliser.BAD_ARG);
        }
        CHECKS.due("loop(0, 0)", new PairLegaliser().loop(0, 0), 0);
        CHECKS.due("loop(5, 0)", new PairLegaliser().loop(5, 0), 0);
    }

    private static void loopK() {
        for (int n = 0; n <= 15; n++) {
            for (int k : new int[] {-1, n + 1, n + 2, n + 256, Integer.MIN_VALUE, Integer.MAX_VALUE}) {
                CHECKS.due("loop(0, " + k + ") at size " + n, Edges.program(n).loop(0, k), PairLegaliser.BAD_ARG);
            }
            for (int k = 0; k <= n; k++) {
                CHECKS.due("loop(0, " + k + ") at size " + n, Edges.program(n).loop(0, k), n);
            }
        }
        PairLegaliser x = Edges.program(4);
        x.unappend();
        CHECKS.due("loop(0, 4) after unappend", x.loop(0, 4), PairLegaliser.BAD_ARG);
        CHECKS.due("loop(0, 3) after unappend", x.loop(0, 3), 3);
        x.clear();
        CHECKS.due("loop(0, 1) after clear", x.loop(0, 1), PairLegaliser.BAD_ARG);
        CHECKS.due("loop(0, 0) after clear", x.loop(0, 0), 0);
    }

    private static void loopOrder() {
        for (PairLegaliser x : new PairLegaliser[] {Edges.program(16), Edges.fullOfLoops()}) {
            for (int a : Edges.NO_REGISTERS) {
                CHECKS.due("loop(" + a + ", 0), full", x.loop(a, 0), PairLegaliser.BAD_ARG);
            }
            for (int k : new int[] {-1, 17, 18, 256, Integer.MIN_VALUE, Integer.MAX_VALUE}) {
                CHECKS.due("loop(0, " + k + "), full", x.loop(0, k), PairLegaliser.BAD_ARG);
                CHECKS.due("loop(6, " + k + "), full", x.loop(6, k), PairLegaliser.BAD_ARG);
            }
        }
    }

    /** k may be 16 here: that is the number the instruction would get. */
    private static void loopFull() {
        PairLegaliser x = Edges.program(15);
        CHECKS.due("the 16th, a loop", x.loop(0, 15), 15);
        for (int k = 0; k <= 16; k++) {
            CHECKS.due("loop(5, " + k + ") as the 17th", x.loop(5, k), PairLegaliser.FULL);
        }
        x.unappend();
        CHECKS.due("loop after unappend", x.loop(0, 15), 15);
        CHECKS.due("one more", x.loop(0, 15), PairLegaliser.FULL);
    }

    private static void loopNumber() {
        for (int n = 0; n <= 15; n++) {
            PairLegaliser x = Edges.program(n);
            x.loop(6, 0);
            CHECKS.due("loop at size " + n, x.loop(5, n), n);
        }
        PairLegaliser y = new PairLegaliser();
        for (int n = 0; n <= 15; n++) {
            CHECKS.due("loop behind " + n + " loops", y.loop(0, 0), n);
        }
    }

    private static void size() {
        for (int n = 0; n <= 16; n++) {
            CHECKS.due("size() of " + n, Edges.program(n).size(), n);
        }
        PairLegaliser x = Edges.fullOfLoops();
        CHECKS.due("size() of 16 loops", x.size(), 16);
        x.append(0, 0, 0, 0);
        x.loop(0, 0);
        CHECKS.due("size() after FULL", x.size(), 16);
        x.append(16, 0, 0, 0);
        x.loop(6, 0);
        CHECKS.due("size() after BAD_ARG", x.size(), 16);
        x.run();
        CHECKS.due("size() after a run", x.size(), 16);
        x.unappend();
        CHECKS.due("size() after unappend", x.size(), 15);
        x.clear();
        CHECKS.due("size() after clear", x.size(), 0);
        x.unappend();
        CHECKS.due("size() after unappend of none", x.size(), 0);
    }

    private static void unappendRemoves() {
        for (int n = 1; n <= 16; n++) {
            PairLegaliser x = Edges.program(n);
            x.unappend();
            String left = Edges.takenApart(x);
            CHECKS.due("what is left of " + n, left.equals(Edges.takenApart(Edges.program(n - 1))));
        }
        // The place that a loop had may be any other instruction's afterwards, and the other way round.
        PairLegaliser x = new PairLegaliser();
        x.set(0, 1);
        x.loop(0, 0);
        x.unappend();
        x.append(1, 1, 0, 0);
        x.run();
        CHECKS.due("get(0)", x.get(0), 1);
        CHECKS.due("get(1)", x.get(1), 2);
        x.unappend();
        x.loop(0, 0);
        x.run();
        CHECKS.due("get(0) after the loop", x.get(0), 0);
        CHECKS.due("get(1) after the loop", x.get(1), 2);
    }

    private static void unappendOfNone() {
        PairLegaliser x = new PairLegaliser();
        CHECKS.due("unappend() of a new object", x.unappend(), PairLegaliser.BAD_ARG);
        CHECKS.due("unappend() again", x.unappend(), PairLegaliser.BAD_ARG);
        CHECKS.due("append", x.append(0, 0, 0, 0), 0);
        CHECKS.due("unappend() of the only one", x.unappend(), 0);
        CHECKS.due("unappend() of none", x.unappend(), PairLegaliser.BAD_ARG);
        PairLegaliser y = Edges.program(16);
        y.clear();
        CHECKS.due("unappend() after clear", y.unappend(), PairLegaliser.BAD_ARG);
    }

    private static void unappendNumber() {
        for (PairLegaliser x : new PairLegaliser[] {Edges.program(16), Edges.fullOfLoops()}) {
            for (int n = 15; n >= 0; n--) {
                CHECKS.due("unappend()", x.unappend(), n);
            }
        }
    }

    private static void clear() {
        for (int n = 0; n <= 16; n++) {
            PairLegaliser x = Edges.program(n);
            x.clear();
            CHECKS.due("size() after clear of " + n, x.size(), 0);
            CHECKS.due("all is as before", Edges.takenApart(x).equals(Edges.takenApart(new PairLegaliser())));
            for (int i = 0; i <= 15; i++) {
                CHECKS.due("append after clear", x.append(0, 0, 0, 0), i);
            }
            CHECKS.due("append to a full program", x.append(0, 0, 0, 0), PairLegaliser.FULL);
        }
        PairLegaliser x = Edges.afterARun(Edges.fullOfLoops(), Long.MIN_VALUE);
        x.clear();
        x.clear();
        CHECKS.due("size() after clear of nothing", x.size(), 0);
        CHECKS.due("get(4) after clear", x.get(4), -5);
        CHECKS.due("ending() after clear", x.ending(), PairLegaliser.TIRED);
        CHECKS.due("worked() after clear", x.worked(), 300);
    }
}
