import java.util.Random;

/** Long runs of mixed calls, the same ones every time, each answer held against the model's. */
public final class ModelTest {
    private static final Checks CHECKS = new Checks();
    private static final int OBJECTS = 4000;
    private static final int CALLS = 512;

    public static void main(String[] args) {
        int done = 0;
        int tired = 0;
        for (int seed = 0; seed < OBJECTS; seed++) {
            Random random = new Random(seed);
            PairLegaliser x = new PairLegaliser();
            Model m = new Model();
            for (int i = 0; i < CALLS; i++) {
                call("object " + seed + ", call " + i + ": ", random, x, m);
            }
            done += m.ending == 1 ? 1 : 0;
            tired += m.ending == 2 ? 1 : 0;
        }
        // Calls that never tire a run, or always do, would leave a promise untested.
        CHECKS.due("enough runs are done", done > OBJECTS / 10);
        CHECKS.due("enough runs are tired", tired > OBJECTS / 10);
        CHECKS.end("ModelTest");
    }

    private static int near(Random random, int limit) {
        return random.nextInt(25) == 0 ? random.nextInt(limit + 6) - 3 : random.nextInt(limit);
    }

    private static long value(Random random) {
        return switch (random.nextInt(5)) {
            case 0 -> random.nextLong();
            case 1 -> random.nextInt();
            case 2 -> 1L << random.nextInt(64);
            case 3 -> -1L << random.nextInt(64);
            default -> random.nextInt(70);
        };
    }

    private static void call(String at, Random random, PairLegaliser x, Model m) {
        int r = near(random, 6);
        switch (random.nextInt(22)) {
            case 0, 1, 2, 3, 4 -> append(at, random, x, m);
            case 5, 6 -> {
                int k = random.nextInt(m.program.size() + 1) + (random.nextInt(20) == 0 ? random.nextInt(5) - 2 : 0);
                CHECKS.due(at + "loop(" + r + ", " + k + ")", x.loop(r, k), m.loop(r, k));
            }
            case 7 -> CHECKS.due(at + "size()", x.size(), m.program.size());
            case 8, 9 -> CHECKS.due(at + "unappend()", x.unappend(), m.unappend());
            case 10 -> clearAtTimes(random, x, m);
            case 11, 12, 13 -> {
                long v = value(random);
                CHECKS.due(at + "set(" + r + ", " + v + ")", x.set(r, v), m.set(r, v));
            }
            case 14 -> CHECKS.due(at + "get(" + r + ")", x.get(r), m.get(r));
            case 15 -> CHECKS.due(at + "sign(" + r + ")", x.sign(r), Long.signum(m.get(r)));
            case 16 -> CHECKS.due(at + "ones(" + r + ")", x.ones(r), Long.bitCount(m.get(r)));
            case 17 -> CHECKS.due(at + "total()", x.total(), m.total());
            case 18 -> CHECKS.due(at + "ending()", x.ending(), m.ending);
            case 19 -> CHECKS.due(at + "worked()", x.worked(), m.worked);
            default -> CHECKS.due(at + "run()", x.run(), m.run());
        }
    }

    private static void append(String at, Random random, PairLegaliser x, Model m) {
        int op = near(random, 16);
        int d = near(random, 6);
        int a = near(random, 6);
        int b = near(random, 6);
        String call = at + "append(" + op + ", " + d + ", " + a + ", " + b + ")";
        CHECKS.due(call, x.append(op, d, a, b), m.append(op, d, a, b));
    }

    /** Seldom, so that programs grow to their full length in between. */
    private static void clearAtTimes(Random random, PairLegaliser x, Model m) {
        if (random.nextInt(4) == 0) {
            x.clear();
            m.program.clear();
        }
    }
}
