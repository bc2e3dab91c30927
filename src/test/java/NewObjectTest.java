/** Promise 1. */
public final class NewObjectTest {
    private static final Checks CHECKS = new Checks();

    public static void main(String[] args) {
        allIsEmpty();
        objectsAreApart();
        CHECKS.end("NewObjectTest");
    }

    private static void allIsEmpty() {
        PairLegaliser x = new PairLegaliser();
        for (int r = 0; r < 6; r++) {
            CHECKS.due("get(" + r + ")", x.get(r), 0);
            CHECKS.due("sign(" + r + ")", x.sign(r), 0);
            CHECKS.due("ones(" + r + ")", x.ones(r), 0);
        }
        CHECKS.due("total()", x.total(), 0);
        CHECKS.due("size()", x.size(), 0);
        CHECKS.due("ending()", x.ending(), PairLegaliser.NO_RUN);
        CHECKS.due("worked()", x.worked(), 0);
        CHECKS.due("unappend()", x.unappend(), PairLegaliser.BAD_ARG);
    }

    private static void objectsAreApart() {
        PairLegaliser used = new PairLegaliser();
        PairLegaliser other = new PairLegaliser();
        String before = Checks.seen(other);
        used.set(3, 17);
        used.append(1, 3, 3, 3);
        used.run();
        CHECKS.same("use of another object", other, before);
        CHECKS.same("use of an object made earlier", new PairLegaliser(), before);
    }
}
