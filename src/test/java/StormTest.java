import java.lang.management.ManagementFactory;
import java.util.Random;

/** Calls with any arguments: none throws, none fills the room, a question or a refusal changes nothing. */
public final class StormTest {
    private static final int CALLS = 45, CALLS_OF_A_RUN = 280;
    // Of some 36 calls: a call may make little, if at all.
    private static final int MOST_BYTES = 20000;
    private static final int[] ODD = {Integer.MIN_VALUE, Integer.MIN_VALUE + 1, -1000, -101, -100, -14, -3, -2, -1, 0, 1, 2, 3,
        5, 6, 7, 11, 12, 13, 53, 54, 55, 56, 60, 61, 99, 100, 119, 120, 153, 154, 255, 256, 653, 753, 999, 1000, 4095, 4096,
        9999, 10000, Integer.MAX_VALUE - 1, Integer.MAX_VALUE};
    private static final String LETTERS = "dhfnkm0123456789()!-+*/%<=>&|?;";

    private static Random random;
    private static boolean wild;

    public static void main(String[] args) {
        for (int run = 0; run < 400; run++) {
            storm(run, run % 3 == 0);
        }
        room();
        Check.end();
    }

    private static int some(int low, int high) {
        if (wild && random.nextInt(4) == 0) {
            return ODD[random.nextInt(ODD.length)];
        }
        return low + random.nextInt(high - low + 1);
    }

    /** A twin is asked nothing and refused nothing: all it answers and all that can be seen of it is the same. */
    private static void storm(int seed, boolean isWild) {
        wild = isWild;
        OpensLikeThat x = new OpensLikeThat();
        OpensLikeThat twin = new OpensLikeThat();
        for (int i = 0; i < CALLS_OF_A_RUN; i++) {
            long lot = seed * 1000L + i;
            int which = new Random(lot).nextInt(CALLS);
            long answer = answerOf(x, which, lot);
            if (!leavesAllAsItIs(which, answer)) {
                Check.due("call " + which + " of the twin in run " + seed, answer, answerOf(twin, which, lot));
            }
        }
        Check.due("twins of run " + seed, digest(x), digest(twin));
    }

    private static boolean leavesAllAsItIs(int which, long answer) {
        boolean refused = answer == -1 || answer == -2 || answer == -3 || answer == -5 || answer <= -11 && answer >= -14;
        boolean asks = which >= 7 && which <= 28 || which == 31 || which == 38 || which == 42 || which == 44;
        return asks || refused && which != 37;
    }

    /** In 230 calls, so that an object has 512 at most. */
    private static long digest(OpensLikeThat x) {
        long d = 0;
        for (int what = 0; what < 6; what++) {
            d = d * 31 + x.count(what);
        }
        for (int number = 0; number < 12; number++) {
            for (int what = 0; what < 6; what++) {
                d = d * 31 + x.of(number, what);
            }
            d = d * 31 + x.takes(0, number, 38);
        }
        d = d * 31 + x.of(0, 8);
        for (int what = 0; what < 4; what++) {
            d = d * 31 + x.led(what);
        }
        for (int i = 0; i < 15; i++) {
            d = d * 31 + x.trace(i);
        }
        for (int shelf = 0; shelf < 6; shelf++) {
            d = d * 31 + x.taken(shelf, 0);
            for (int i = 0; i < 19; i++) {
                d = d * 31 + x.element(shelf, i);
            }
        }
        return d;
    }

    private static long answerOf(OpensLikeThat x, int which, long seed) {
        random = new Random(seed);
        switch (which) {
            case 0: return x.move(some(0, 3) * 10 + some(1, 2), some(0, 3));
            case 1: return x.moves(some(0, 5), some(0, 10), some(1, 12));
            case 2: return x.person(some(0, 9), some(1, 9));
            case 3: return x.mend(some(0, 5), some(0, 5), some(0, 9));
            case 4: return x.of(some(0, 11), some(0, 8));
            case 5: return x.feed(wild ? some(0, 255) : LETTERS.charAt(random.nextInt(LETTERS.length())));
            case 6: return x.law();
            case 7: return x.leads(some(0, 11), some(0, 53));
            case 8: return x.takes(some(-1, 5), some(0, 11), some(0, 53));
            case 9: return x.way(ps(), some(0, 55), some(0, 1));
            case 10: return x.next(ps(), some(0, 55));
            case 11: return x.reach(ps(), some(0, 2));
            case 12: return x.worst(some(-1, 5), some(0, 2));
            case 13: return x.ways(some(0, 53), some(0, 53));
            case 14: return x.backFrom(ps());
            case 15: return x.needed(ps());
            case 16: return x.oneWay(some(0, 1));
            case 17: return x.learn(some(0, 5), some(0, 5));
            case 18: return x.show(ps(), some(0, 30), some(0, 1));
            case 19: return x.opens(some(0, 5), some(0, 5), some(-2, 99));
            case 20: return x.bestFirst(some(0, 5), some(0, 5), some(0, 99));
            case 21: return x.tide(some(0, 5), some(0, 5), some(1, 20));
            case 22: return x.two(some(0, 5), some(0, 55));
            case 23: return x.judge(some(0, 5), some(0, 53));
            case 24: return x.ends(some(0, 5), some(0, 53));
            case 25: return x.who(some(0, 5), some(0, 53));
            case 26: return x.begun(some(0, 5), some(0, 53), some(0, 1));
            case 27: return x.drawn(some(0, 53), random.nextInt(), some(101, 5060), some(0, 1));
            case 28: return x.element(some(0, 5), some(0, 59));
            case 29: return x.make(some(0, 5), some(0, 11));
            case 30: return x.lay(some(0, 53));
            case 31: return x.led(some(0, 3));
            case 32: return x.image();
            case 33: return x.back();
            case 34: return x.undo();
            case 35: return x.redo();
            case 36: return x.body(some(0, 7));
            case 37: return x.act(some(0, 9), some(0, 3), random.nextInt());
            case 38: return x.trace(some(0, 23));
            case 39: return x.keep(some(0, 5), some(-1, 3));
            case 40: return x.row(some(0, 5), random.nextInt(3) > 0 ? 0 : some(0, 4), some(0, 60));
            case 41: return x.put(some(0, 5), some(0, 20), wild ? random.nextLong() : some(0, 11));
            case 42: return x.taken(some(0, 5), some(0, 7));
            case 43: return x.shift(some(0, 5), some(0, 20), some(0, 5), some(0, 20), some(0, 20));
            default: return x.count(some(0, 5));
        }
    }

    private static int ps() {
        return some(0, 6) * 100 + some(0, 53);
    }

    /** All of one run lives in one room: what the calls make is held against it. */
    private static void room() {
        com.sun.management.ThreadMXBean bean = (com.sun.management.ThreadMXBean) ManagementFactory.getThreadMXBean();
        long thread = Thread.currentThread().getId();
        OpensLikeThat x = Beach.wheels();
        x.person(1, 1);
        x.person(5, 2);
        Beach.bytes(x, 0, 0, 1, 2, 3, 0, 0);
        x.body(7);
        everything(x);
        long before = bean.getThreadAllocatedBytes(thread);
        for (int i = 0; i < 10; i++) {
            everything(x);
        }
        long each = (bean.getThreadAllocatedBytes(thread) - before) / 10;
        Check.due("bytes made by a round of all calls: " + each, 1, each < MOST_BYTES ? 1 : 0);
    }

    private static void everything(OpensLikeThat x) {
        x.moves(0, 0, 1);
        x.mend(0, 4, 3);
        x.mend(0, 4, 7);
        x.feed('h');
        x.law();
        x.way(107, 54, 1);
        x.next(107, 54);
        x.reach(107, 2);
        x.worst(0, 1);
        x.ways(7, 36);
        x.backFrom(107);
        x.needed(107);
        x.oneWay(0);
        x.learn(0, 0);
        x.show(107, 3, 0);
        x.opens(0, 0, 9);
        x.bestFirst(0, 0, 9);
        x.tide(0, 0, 9);
        x.two(0, 1);
        x.judge(0, 0);
        x.ends(0, 0);
        x.who(0, 0);
        x.begun(0, 0, 0);
        x.drawn(0, 1, 1010, 0);
        x.make(0, 0);
        x.lay(0);
        x.image();
        x.back();
        x.undo();
        x.redo();
        x.act(0, 3, 5);
        x.row(1, 0, 9);
        x.put(1, 0, 9);
        x.shift(0, 0, 1, 0, 5);
        x.taken(1, 0);
    }
}
