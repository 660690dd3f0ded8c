import java.lang.reflect.Method;
import java.util.ArrayList;
import java.util.HashMap;
import java.util.List;
import java.util.Map;
import java.util.Random;

/** Whole lives of 512 calls, of all kinds and by lot, each answer held against the document as Told tells it. */
public final class WholeTest {
    private static final int RUNS = 200, CALLS = 512, MOST_TOLD = 60;
    private static final int[] ODD = {Integer.MIN_VALUE, -101, -100, -3, -2, -1, 0, 1, 3, 6, 7, 10, 11, 12, 13, 53, 54, 55, 56, 59,
        60, 61, 99, 100, 254, 255, 256, 653, 654, 999, 1000, 4095, 4096, 9999, 10000, Integer.MAX_VALUE};
    private static final Map<String, Method> PROGRAMS = methodsOf(OpensLikeThat.class);
    private static final Map<String, Method> TOLDS = methodsOf(Told.class);

    private final Random random;
    private final OpensLikeThat x = new OpensLikeThat();
    private final Told told = new Told();
    private final List<String> calls = new ArrayList<>();

    private WholeTest(long seed) {
        random = new Random(seed);
    }

    public static void main(String[] args) throws ReflectiveOperationException {
        int runs = args.length > 1 ? Integer.parseInt(args[1]) : RUNS;
        for (int run = 0; run < runs; run++) {
            new WholeTest(run).live(run);
        }
        Check.end();
    }

    private static Map<String, Method> methodsOf(Class<?> c) {
        Map<String, Method> methods = new HashMap<>();
        for (Method m : c.getMethods()) {
            if (m.getDeclaringClass() == c) {
                methods.put(m.getName(), m);
            }
        }
        return methods;
    }

    /** false: no call more may come. */
    private boolean call(String name, long... arguments) throws ReflectiveOperationException {
        if (calls.size() >= CALLS) {
            return false;
        }
        Class<?>[] types = PROGRAMS.get(name).getParameterTypes();
        Object[] given = new Object[types.length];
        StringBuilder b = new StringBuilder(name).append('(');
        for (int i = 0; i < types.length; i++) {
            given[i] = types[i] == long.class ? (Object) arguments[i] : (Object) (int) arguments[i];
            b.append(i == 0 ? "" : ", ").append(given[i]);
        }
        long due = ((Number) TOLDS.get(name).invoke(told, given)).longValue();
        long answer = ((Number) PROGRAMS.get(name).invoke(x, given)).longValue();
        calls.add(b.append(") -> ").append(due).toString());
        if (due != answer) {
            List<String> ahead = calls.subList(Math.max(0, calls.size() - MOST_TOLD), calls.size());
            Check.due("behind " + String.join("; ", ahead) + ": the last", due, answer);
        } else {
            Check.due(name, due, answer);
        }
        return true;
    }

    private int some(int low, int high) {
        return random.nextInt(60) == 0 ? ODD[random.nextInt(ODD.length)] : low + random.nextInt(Math.max(1, high - low + 1));
    }

    private int one() {
        return some(0, told.count(1) - 1);
    }

    private int oneOrNobody() {
        return some(-1, told.count(1) - 1);
    }

    private int move() {
        return some(0, told.count(0) - 1);
    }

    private int ps() {
        return some(0, told.count(1)) * 100 + some(0, 53);
    }

    private int shelf() {
        return some(0, 5);
    }

    private void live(int run) throws ReflectiveOperationException {
        int moves = random.nextInt(9);
        for (int i = 0; i < moves; i++) {
            call("move", 10 * random.nextInt(4) + 1 + random.nextInt(2), random.nextInt(2) == 0 ? 3 : random.nextInt(4));
        }
        call("person", random.nextInt(10), 1 + random.nextInt(3));
        // More CHANGES than are kept come about by lot too seldom.
        for (int i = 0; i < 60 && run % 4 == 0; i++) {
            mend();
        }
        boolean more = true;
        while (more) {
            switch (random.nextInt(run % 2 == 0 ? 7 : 6)) {
                case 0: more = beach(); break;
                case 1: more = ways(); break;
                case 2: more = attends(); break;
                case 3: more = found(); break;
                case 4: more = deeds(); break;
                case 5: more = fills(); break;
                default: more = host(); break;
            }
        }
    }

    private boolean beach() throws ReflectiveOperationException {
        switch (random.nextInt(12)) {
            case 0: return call("move", some(0, 3) * 10 + some(1, 2), some(0, 3));
            case 1: return call("person", some(0, 9), some(1, 9));
            case 2: return call("moves", shelf(), some(0, 6), some(1, 12));
            case 3: return random.nextInt(3) > 0 || law();
            case 4: return call("leads", move(), some(0, 53));
            case 5: return call("takes", oneOrNobody(), move(), some(0, 53));
            case 6: return call("of", some(0, 11), some(0, 8));
            case 7: return call("count", some(0, 5));
            default: return mend();
        }
    }

    private boolean mend() throws ReflectiveOperationException {
        int what = some(0, 5);
        boolean ofMove = what <= 2;
        return call("mend", ofMove ? move() : one(), what, what == 4 ? some(0, 4095) : some(what == 5 ? 1 : 0, what < 2 ? 3 : 9));
    }

    private boolean law() throws ReflectiveOperationException {
        StringBuilder b = new StringBuilder(level(0, 0));
        for (int i = random.nextInt(3); i > 0; i--) {
            b.append(random.nextInt(2) == 0 ? '?' : ';').append(level(0, 0));
        }
        if (random.nextInt(5) == 0) {
            b.setCharAt(random.nextInt(b.length()), (char) random.nextInt(128));
        }
        for (int i = 0; i < Math.min(40, b.length()); i++) {
            call("feed", b.charAt(i));
        }
        return call("law");
    }

    private String level(int level, int depth) {
        if (level == 5) {
            switch (random.nextInt(depth < 7 ? 9 : 6)) {
                case 0: return String.valueOf(random.nextInt(4));
                case 1: return String.valueOf(random.nextInt(1 << random.nextInt(18)));
                case 6: return "!" + level(5, depth + 1);
                case 7: return "-" + level(5, depth + 1);
                case 8: return "(" + level(0, depth + 1) + ")";
                default: return String.valueOf("dhfnkm".charAt(random.nextInt(6)));
            }
        }
        String signs = new String[] {"|", "&", "<=>", "+-", "*/%"}[level];
        String t = level(level + 1, depth);
        return random.nextInt(5) > 0 ? t : t + signs.charAt(random.nextInt(signs.length())) + level(level + 1, depth);
    }

    private boolean ways() throws ReflectiveOperationException {
        switch (random.nextInt(9)) {
            case 0: return call("way", ps(), random.nextInt(2) == 0 ? 54 : some(0, 55), some(0, 1));
            case 1: return call("next", ps(), random.nextInt(2) == 0 ? 54 : some(0, 55));
            case 2: return call("reach", ps(), some(0, 2));
            case 3: return call("worst", oneOrNobody(), some(0, 2));
            case 4: return call("ways", some(0, 53), some(0, 53));
            case 5: return call("backFrom", ps());
            case 6: return call("needed", ps());
            case 7: return call("oneWay", some(0, 1));
            default: return random.nextInt(4) > 0 || call("show", ps(), some(0, 30), some(0, 1));
        }
    }

    private boolean attends() throws ReflectiveOperationException {
        switch (random.nextInt(5)) {
            case 0: return call("learn", shelf(), one());
            case 1: return call("opens", shelf(), one(), random.nextInt(3) == 0 ? some(-2, -1) : some(0, 150));
            case 2: return call("bestFirst", shelf(), one(), some(0, 150));
            case 3: return call("tide", shelf(), one(), some(1, 20));
            default: return call("two", shelf(), 10 * one() + one());
        }
    }

    private boolean found() throws ReflectiveOperationException {
        switch (random.nextInt(5)) {
            case 0: return call("judge", shelf(), some(0, 53));
            case 1: return call("ends", shelf(), some(0, 53));
            case 2: return call("who", shelf(), some(0, 53));
            case 3: return call("begun", shelf(), some(0, 53), some(0, 1));
            default: return call("drawn", some(0, 53), random.nextInt(), some(1, 50) * 100 + some(1, 60), some(0, 1));
        }
    }

    private boolean deeds() throws ReflectiveOperationException {
        switch (random.nextInt(18)) {
            case 0: return call("lay", some(0, 53));
            case 1: return call("led", some(0, 3));
            case 2: return call("image");
            case 3: return call("back");
            case 4: return call("undo");
            case 5: return call("redo");
            case 6: return call("of", 0, 8);
            case 7: return call("of", one(), 4);
            case 8: return random.nextInt(5) > 0 || undoesAll();
            case 9: case 10: case 11: return mend();
            default: return call("make", one(), move());
        }
    }

    private boolean undoesAll() throws ReflectiveOperationException {
        int some = random.nextInt(45);
        for (int i = 0; i < some; i++) {
            call("undo");
        }
        int again = random.nextInt(some + 1);
        for (int i = 0; i < again; i++) {
            call("redo");
        }
        return call("count", 3);
    }

    /** A ROW of bytes that are MOVES, STATES, or MOVES by fives. */
    private boolean fills() throws ReflectiveOperationException {
        if (random.nextInt(5) > 0) {
            return true;
        }
        int shelf = random.nextInt(6);
        int n = random.nextInt(12);
        int sort = random.nextInt(3);
        call("row", shelf, 0, n);
        for (int i = 0; i < n; i++) {
            int v = sort == 0 ? move() : sort == 1 ? some(0, 53) : new int[] {some(0, 3), some(1, 2), some(0, 3), some(0, 3), some(0, 9)}[i % 5];
            call("put", shelf, i, v + 256L * random.nextInt(3));
        }
        return call("count", 0);
    }

    private boolean host() throws ReflectiveOperationException {
        switch (random.nextInt(11)) {
            case 0: return call("body", some(0, 7));
            case 1: return call("act", some(0, told.count(4) - 1), some(0, 3), random.nextInt());
            case 2: return call("act", some(0, told.count(4) - 1), some(2, 3), some(-9, 9));
            case 3: return call("trace", some(0, 13));
            case 4: return random.nextInt(3) > 0 || call("keep", shelf(), some(-1, told.count(4) - 1));
            case 5: return random.nextInt(3) > 0 || call("row", shelf(), some(0, 4), some(-1, 12));
            case 6: return call("put", shelf(), some(0, 9), random.nextLong() >> random.nextInt(64));
            case 7: return call("element", shelf(), some(0, 9));
            case 8: return call("shift", shelf(), some(0, 5), shelf(), some(0, 5), some(0, 5));
            case 9: return call("taken", shelf(), some(0, 7));
            default: return call("count", 5);
        }
    }
}
