/** Promise 2. */
public final class AppendTest {
    private static final Checks CHECKS = new Checks();
    private static final int[] OUTSIDE_OPS = {Integer.MIN_VALUE, -2, -1, 16, 17, 31, 32, 256, Integer.MAX_VALUE};
    private static final int[] OUTSIDE_REGISTERS = {Integer.MIN_VALUE, -2, -1, 6, 7, 16, 256, Integer.MAX_VALUE};

    public static void main(String[] args) {
        everyNumberIsTaken();
        everyRegisterIsTaken();
        wrongArguments(0);
        wrongArguments(3);
        wrongArguments(16);
        full();
        refusedIsNotPartOfTheProgram();
        registersKeepTheirRoles();
        CHECKS.end("AppendTest");
    }

    private static PairLegaliser withMoves(int n) {
        PairLegaliser x = new PairLegaliser();
        for (int i = 0; i < n; i++) {
            CHECKS.due("append " + i, x.append(0, 0, 0, 0), i);
        }
        return x;
    }

    private static void everyNumberIsTaken() {
        PairLegaliser x = new PairLegaliser();
        for (int op = 0; op <= 15; op++) {
            CHECKS.due("append(" + op + ", 0, 1, 2)", x.append(op, 0, 1, 2), op);
            CHECKS.due("size()", x.size(), op + 1);
        }
    }

    private static void everyRegisterIsTaken() {
        for (int d = 0; d < 6; d++) {
            for (int a = 0; a < 6; a++) {
                for (int b = 0; b < 6; b++) {
                    PairLegaliser x = new PairLegaliser();
                    CHECKS.due("append(2, " + d + ", " + a + ", " + b + ")", x.append(2, d, a, b), 0);
                }
            }
        }
    }

    /** With 16 instructions too, for the arguments are tested before the room. */
    private static void wrongArguments(int n) {
        PairLegaliser x = withMoves(n);
        String before = Checks.seen(x);
        for (int op : OUTSIDE_OPS) {
            CHECKS.due("append(" + op + ", 0, 0, 0)", x.append(op, 0, 0, 0), PairLegaliser.BAD_ARG);
        }
        // The b of 0, 13, 14 and 15 is not used, and yet it is tested.
        for (int op : new int[] {0, 1, 12, 13, 14, 15}) {
            for (int r : OUTSIDE_REGISTERS) {
                CHECKS.due("append(" + op + ", " + r + ", 0, 0)", x.append(op, r, 0, 0), PairLegaliser.BAD_ARG);
                CHECKS.due("append(" + op + ", 0, " + r + ", 0)", x.append(op, 0, r, 0), PairLegaliser.BAD_ARG);
                CHECKS.due("append(" + op + ", 0, 0, " + r + ")", x.append(op, 0, 0, r), PairLegaliser.BAD_ARG);
            }
        }
        CHECKS.same("a refused append at size " + n, x, before);
    }

    private static void full() {
        PairLegaliser x = withMoves(16);
        String before = Checks.seen(x);
        CHECKS.due("append to a full program", x.append(1, 1, 1, 1), PairLegaliser.FULL);
        CHECKS.due("append to a full program, again", x.append(15, 5, 5, 5), PairLegaliser.FULL);
        CHECKS.same("an append to a full program", x, before);
        CHECKS.due("unappend()", x.unappend(), 15);
        CHECKS.due("append with room again", x.append(1, 1, 1, 1), 15);
        CHECKS.due("append without room again", x.append(1, 1, 1, 1), PairLegaliser.FULL);
    }

    private static void refusedIsNotPartOfTheProgram() {
        PairLegaliser x = new PairLegaliser();
        x.set(0, 1);
        for (int i = 0; i < 16; i++) {
            x.append(1, 0, 0, 0);
            x.append(2, 0, 0, 6);
            x.append(16, 0, 0, 0);
        }
        x.append(2, 0, 0, 0);
        CHECKS.due("run()", x.run(), PairLegaliser.DONE);
        CHECKS.due("worked()", x.worked(), 16);
        CHECKS.due("get(0)", x.get(0), 65536);
    }

    private static void registersKeepTheirRoles() {
        PairLegaliser x = new PairLegaliser();
        for (int r = 0; r < 6; r++) {
            x.set(r, 1L << (8 * r));
        }
        x.append(2, 5, 4, 3);
        x.append(2, 0, 1, 2);
        x.run();
        CHECKS.due("get(5)", x.get(5), (1L << 32) - (1L << 24));
        CHECKS.due("get(0)", x.get(0), (1L << 8) - (1L << 16));
        for (int r = 1; r < 5; r++) {
            CHECKS.due("get(" + r + ")", x.get(r), 1L << (8 * r));
        }
    }
}
