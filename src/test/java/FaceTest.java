import java.lang.reflect.Constructor;
import java.lang.reflect.Field;
import java.lang.reflect.Method;
import java.lang.reflect.Modifier;
import java.util.Set;
import java.util.TreeSet;

/** The public face, and that nothing beside it can be seen from outside. */
public final class FaceTest {
    private static final Checks CHECKS = new Checks();

    public static void main(String[] args) {
        constants();
        methods();
        constructors();
        CHECKS.due("the class is public and final", PairLegaliser.class.getModifiers(), Modifier.PUBLIC | Modifier.FINAL);
        CHECKS.due("nested classes", PairLegaliser.class.getDeclaredClasses().length, 0);
        CHECKS.end("FaceTest");
    }

    private static void constants() {
        CHECKS.due("BAD_ARG", PairLegaliser.BAD_ARG, -1);
        CHECKS.due("FULL", PairLegaliser.FULL, -2);
        CHECKS.due("NO_RUN", PairLegaliser.NO_RUN, 0);
        CHECKS.due("DONE", PairLegaliser.DONE, 1);
        CHECKS.due("TIRED", PairLegaliser.TIRED, 2);
        Set<String> open = new TreeSet<>();
        for (Field field : PairLegaliser.class.getDeclaredFields()) {
            if (!Modifier.isPrivate(field.getModifiers())) {
                open.add(field.toString().replace("PairLegaliser.", ""));
            }
        }
        Set<String> want = new TreeSet<>();
        for (String name : new String[] {"BAD_ARG", "FULL", "NO_RUN", "DONE", "TIRED"}) {
            want.add("public static final int " + name);
        }
        sameSet("constants", open, want);
    }

    private static void methods() {
        Set<String> open = new TreeSet<>();
        Set<String> hidden = new TreeSet<>();
        for (Method method : PairLegaliser.class.getDeclaredMethods()) {
            if (Modifier.isPrivate(method.getModifiers())) {
                hidden.add(method.getName());
            } else {
                open.add(method.toString().replace("PairLegaliser.", ""));
            }
        }
        Set<String> want = Set.of(
            "public int append(int,int,int,int)", "public int loop(int,int)", "public int size()",
            "public int unappend()", "public void clear()", "public int set(int,long)",
            "public long get(int)", "public int sign(int)", "public int run()", "public int ending()",
            "public int worked()", "public int ones(int)", "public long total()");
        sameSet("methods", open, new TreeSet<>(want));
        for (String method : want) {
            String name = method.substring(method.lastIndexOf(' ') + 1, method.indexOf('('));
            CHECKS.due("a private method bears the public name " + name, hidden.contains(name) ? 1 : 0, 0);
        }
    }

    private static void constructors() {
        Constructor<?>[] all = PairLegaliser.class.getDeclaredConstructors();
        CHECKS.due("number of constructors", all.length, 1);
        CHECKS.due("the constructor", all[0].toString().equals("public PairLegaliser()"));
    }

    private static void sameSet(String what, Set<String> got, Set<String> want) {
        if (!got.equals(want)) {
            System.out.println(what + ": " + got + ", due is " + want);
        }
        CHECKS.due(what + " are those of the document", got.equals(want));
    }
}
