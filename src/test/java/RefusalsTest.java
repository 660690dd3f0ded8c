import java.util.List;

/**
 * "Answers, of several the one named first" and "what is answered so changes nothing": each call that is refused,
 * in an object with a bit of all and in one that is full; and each question.
 */
public final class RefusalsTest {
    private interface Call {
        long on(OpensLikeThat x);
    }

    private interface Start {
        OpensLikeThat made();
    }

    private static final int BAD = Beach.BAD, NOT = Beach.NOT, FULL = Beach.FULL, STATE = Beach.STATE;
    private static final int BARE = Beach.BARE, KIND = Beach.KIND, PLACE = Beach.PLACE, SIZE = Beach.SIZE;
    // The SHELVES of furnished().
    private static final int BYTES = 0, FRAME = 1, SHORTS = 2, NOTHING = 3, LONGS = 4, NO_BYTES = 5;

    public static void main(String[] args) {
        movesAndPeople();
        waysAre();
        rowsWanted();
        found();
        deeds();
        shelvesAre();
        shifts();
        allIsFull();
        nothingYet();
        questionsChangeNothing();
        Check.end();
    }

    /** A bit of all: something to undo, to do again, to lay back; a law, and bytes for another. */
    private static OpensLikeThat furnished() {
        OpensLikeThat x = Beach.wheels();
        x.move(2, 2);
        x.person(0, 2);
        x.person(9, 3);
        x.person(4, 9);
        Beach.law(x, "1+h*(2-k)");
        x.mend(0, 2, 3);
        x.mend(1, 3, 7);
        x.mend(2, 4, 5);
        x.undo();
        x.make(0, 0);
        x.make(1, 0);
        x.lay(7);
        x.make(1, 2);
        x.image();
        x.make(0, 3);
        x.make(0, 3);
        x.lay(20);
        Beach.feed(x, "f=2?3;4+");
        for (int kind = 0; kind < 8; kind++) {
            x.body(kind);
        }
        Beach.bytes(x, BYTES, 0, 1, 2, 3, 0, 1, 3, 3, 9, 5);
        x.keep(FRAME, 3);
        x.row(SHORTS, 1, 4);
        x.put(SHORTS, 2, 300);
        x.row(LONGS, 3, 3);
        x.put(LONGS, 0, Long.MIN_VALUE + 1);
        x.row(NO_BYTES, 0, 0);
        x.act(7, 3, 5);
        return x;
    }

    /** No more MOVES, PEOPLE, bytes on THE TAPE, CHANGES or BODIES can be had. */
    private static OpensLikeThat brimful() {
        OpensLikeThat x = Beach.full();
        for (int i = 0; i < 120; i++) {
            x.feed(i % 2 == 0 ? '7' : '+');
        }
        for (int i = 0; i < 42; i++) {
            x.mend(i % 6, i % 7 % 6, i % 3 + 1);
        }
        x.undo();
        x.undo();
        x.act(7, 3, 5);
        x.put(BYTES, 1, 1);
        return x;
    }

    private static void refused(String told, long due, Call call) {
        leaves(RefusalsTest::furnished, told, due, call);
    }

    private static void leaves(Start start, String told, long due, Call call) {
        for (int part = 0; part < Look.PARTS; part++) {
            OpensLikeThat x = start.made();
            Check.due(told, due, call.on(x));
            List<Long> untouched = Look.at(start.made(), part);
            Check.due(told + " changed nothing, part " + part, 1, Look.at(x, part).equals(untouched) ? 1 : 0);
        }
    }

    private static void movesAndPeople() {
        refused("move: no such", BAD, x -> x.move(3, 3));
        refused("move: from", BAD, x -> x.move(1, 4));
        refused("moves: no shelf", BAD, x -> x.moves(6, 0, 1));
        refused("moves: n", BAD, x -> x.moves(BYTES, 0, 13));
        refused("moves: n 0", BAD, x -> x.moves(BYTES, 0, 0));
        refused("moves: BAD ahead of -12", BAD, x -> x.moves(FRAME, 0, 0));
        refused("moves: BAD ahead of what is missing", BAD, x -> x.moves(NOTHING, 0, 13));
        refused("moves: a FRAME", KIND, x -> x.moves(FRAME, 0, 1));
        refused("moves: shorts", KIND, x -> x.moves(SHORTS, 0, 1));
        refused("moves: longs, ahead of the place", KIND, x -> x.moves(LONGS, 99, 1));
        refused("moves: the row is missing", 0, x -> x.moves(NOTHING, 0, 12));
        refused("moves: the row ends at once", 0, x -> x.moves(NO_BYTES, 0, 12));
        refused("moves: it ends within a five", 0, x -> x.moves(BYTES, 6, 12));
        refused("moves: one is not so", 0, x -> x.moves(BYTES, 2, 12));
        refused("person: deft", BAD, x -> x.person(10, 1));
        refused("person: learns", BAD, x -> x.person(0, 0));
        refused("mend: no MOVE", BAD, x -> x.mend(5, 2, 3));
        refused("mend: no one", BAD, x -> x.mend(3, 3, 3));
        refused("mend: what", BAD, x -> x.mend(0, 6, 1));
        refused("mend: v", BAD, x -> x.mend(0, 2, 10));
        refused("mend: SIDE from 2", BAD, x -> x.mend(3, 0, 2));
        refused("mend: the same number", 3, x -> x.mend(0, 2, 3));
        refused("of: no MOVE", BAD, x -> x.of(5, 7));
        refused("feed: below", BAD, x -> x.feed(-1));
        refused("feed: above", BAD, x -> x.feed(256));
        refused("leads: BAD ahead of NOT", BAD, x -> x.leads(5, 0));
        refused("leads: a state", BAD, x -> x.leads(4, 54));
        refused("leads: NOT", NOT, x -> x.leads(4, 0));
        refused("takes: BAD", BAD, x -> x.takes(3, 0, 0));
    }

    private static void waysAre() {
        refused("way: BAD ahead of NOT", BAD, x -> x.way(54, 53, 0));
        refused("way: what", BAD, x -> x.way(0, 53, 2));
        refused("next: BAD ahead of NOT", BAD, x -> x.next(400, 0));
        refused("next: NOT", NOT, x -> x.next(0, 0));
        refused("reach: BAD", BAD, x -> x.reach(0, 3));
        refused("worst: BAD", BAD, x -> x.worst(3, 0));
        refused("ways: BAD", BAD, x -> x.ways(0, 54));
        refused("backFrom: BAD", BAD, x -> x.backFrom(354 + 100));
        refused("needed: BAD", BAD, x -> x.needed(54));
        refused("oneWay: BAD", BAD, x -> x.oneWay(2));
    }

    /** BAD, -11, -12 of a ROW of bytes, in this order. */
    private static void rowsWanted() {
        wantsBytes("learn", (x, shelf) -> x.learn(shelf, 2), (x, shelf) -> x.learn(shelf, 3));
        wantsBytes("learn, nobody", (x, shelf) -> x.learn(shelf, 0), (x, shelf) -> x.learn(shelf, -1));
        wantsBytes("opens", (x, shelf) -> x.opens(shelf, 2, 0), (x, shelf) -> x.opens(shelf, 3, 0));
        wantsBytes("opens, s", (x, shelf) -> x.opens(shelf, 0, -2), (x, shelf) -> x.opens(shelf, 0, 10000));
        wantsBytes("bestFirst", (x, shelf) -> x.bestFirst(shelf, 2, 0), (x, shelf) -> x.bestFirst(shelf, -1, 0));
        wantsBytes("bestFirst, s", (x, shelf) -> x.bestFirst(shelf, 0, 9999), (x, shelf) -> x.bestFirst(shelf, 0, -1));
        wantsBytes("tide", (x, shelf) -> x.tide(shelf, 2, 1), (x, shelf) -> x.tide(shelf, 3, 1));
        wantsBytes("tide, t", (x, shelf) -> x.tide(shelf, 0, 999), (x, shelf) -> x.tide(shelf, 0, 0));
        wantsBytes("two", (x, shelf) -> x.two(shelf, 12), (x, shelf) -> x.two(shelf, 13));
        wantsBytes("two, one twice", (x, shelf) -> x.two(shelf, 10), (x, shelf) -> x.two(shelf, 11));
        wantsBytes("judge", (x, shelf) -> x.judge(shelf, 53), (x, shelf) -> x.judge(shelf, 54));
        wantsBytes("ends", (x, shelf) -> x.ends(shelf, 0), (x, shelf) -> x.ends(shelf, -1));
        wantsBytes("who", (x, shelf) -> x.who(shelf, 53), (x, shelf) -> x.who(shelf, 54));
        wantsBytes("begun", (x, shelf) -> x.begun(shelf, 0, 1), (x, shelf) -> x.begun(shelf, 54, 1));
        wantsBytes("begun, what", (x, shelf) -> x.begun(shelf, 53, 0), (x, shelf) -> x.begun(shelf, 0, 2));
        refused("show: nobody", BAD, x -> x.show(0, 9, 0));
        refused("show: BAD ahead of NOT", BAD, x -> x.show(107, 0, 2));
        refused("show: NOT", NOT, x -> x.show(107, 0, 0));
    }

    private interface OfShelf {
        long on(OpensLikeThat x, int shelf);
    }

    private static void wantsBytes(String told, OfShelf right, OfShelf wrong) {
        for (int shelf : new int[] {-1, 6, Beach.LEAST, Beach.MOST}) {
            refused(told + ": no shelf", BAD, x -> right.on(x, shelf));
        }
        for (int shelf = 0; shelf < 6; shelf++) {
            int at = shelf;
            refused(told + ": BAD first, shelf " + shelf, BAD, x -> wrong.on(x, at));
        }
        refused(told + ": nothing", BARE, x -> right.on(x, NOTHING));
        refused(told + ": a FRAME", KIND, x -> right.on(x, FRAME));
        refused(told + ": shorts", KIND, x -> right.on(x, SHORTS));
        refused(told + ": longs", KIND, x -> right.on(x, LONGS));
        for (int sort = 0; sort < 5; sort++) {
            OpensLikeThat x = furnished();
            x.row(FRAME, sort, 1);
            Check.due(told + ": a ROW of sort " + sort, 1, (right.on(x, FRAME) == KIND) == (sort > 0) ? 1 : 0);
        }
    }

    private static void found() {
        refused("judge: NOT", NOT, x -> x.judge(NO_BYTES, 0));
        refused("tide: NOT", NOT, x -> x.tide(NO_BYTES, 0, 1));
        refused("begun: NOT", NOT, x -> x.begun(BYTES, 0, 1));
        refused("drawn: a state", BAD, x -> x.drawn(54, 1, 101, 0));
        refused("drawn: m", BAD, x -> x.drawn(0, 1, 161, 0));
        refused("drawn: n", BAD, x -> x.drawn(0, 1, 5101, 0));
        refused("drawn: what", BAD, x -> x.drawn(0, 1, 101, 2));
    }

    private static void deeds() {
        refused("make: no one, BAD ahead of NOT", BAD, x -> x.make(3, 4));
        refused("make: nobody", BAD, x -> x.make(-1, 0));
        refused("make: no MOVE", BAD, x -> x.make(0, 5));
        refused("make: it MAY not be made", NOT, x -> x.make(0, 4));
        leaves(RefusalsTest::lawless, "make: one cannot", NOT, x -> x.make(0, 0));
        refused("lay", BAD, x -> x.lay(54));
        refused("lay", BAD, x -> x.lay(-1));
        refused("led", BAD, x -> x.led(4));
    }

    private static OpensLikeThat lawless() {
        OpensLikeThat x = furnished();
        x.feed('0');
        x.law();
        Beach.law(x, "0");
        return x;
    }

    private static void shelvesAre() {
        refused("body", BAD, x -> x.body(8));
        refused("trace", BAD, x -> x.trace(14));
        refused("keep: no shelf", BAD, x -> x.keep(6, 0));
        refused("keep: no body", BAD, x -> x.keep(BYTES, 8));
        refused("keep: below nothing", BAD, x -> x.keep(BYTES, -2));
        refused("row: no shelf, BAD ahead of -14", BAD, x -> x.row(6, 0, -1));
        refused("row: no sort, BAD ahead of -14", BAD, x -> x.row(BYTES, 5, -1));
        refused("row: too long", BAD, x -> x.row(BYTES, 0, 61));
        refused("row: below 0", SIZE, x -> x.row(BYTES, 0, -1));
        refused("row: far below 0", SIZE, x -> x.row(FRAME, 4, Beach.LEAST));
        refused("put: no shelf", BAD, x -> x.put(-1, 0, 9));
        refused("put: nothing, -11 ahead of -13", BARE, x -> x.put(NOTHING, -1, 9));
        refused("put: a FRAME, -12 ahead of -13", KIND, x -> x.put(FRAME, -1, 9));
        refused("put: ahead", PLACE, x -> x.put(BYTES, -1, 9));
        refused("put: behind", PLACE, x -> x.put(BYTES, 10, 9));
        refused("put: an empty ROW", PLACE, x -> x.put(NO_BYTES, 0, 9));
        refused("element: no shelf", Long.MIN_VALUE, x -> x.element(6, 0));
        refused("element: nothing", Long.MIN_VALUE, x -> x.element(NOTHING, 0));
        refused("element: a FRAME", Long.MIN_VALUE, x -> x.element(FRAME, 0));
        refused("element: ahead", Long.MIN_VALUE, x -> x.element(LONGS, -1));
        refused("element: behind", Long.MIN_VALUE, x -> x.element(LONGS, 3));
        refused("taken: no KIND, BAD ahead of -11", BAD, x -> x.taken(NOTHING, 8));
        refused("taken: no KIND, BAD ahead of -12", BAD, x -> x.taken(BYTES, -1));
        refused("taken: nothing", BARE, x -> x.taken(NOTHING, 0));
        refused("taken: a ROW", KIND, x -> x.taken(BYTES, 0));
        refused("taken: of another KIND", KIND, x -> x.taken(FRAME, 1));
        refused("count", BAD, x -> x.count(6));
    }

    private static void shifts() {
        refused("shift: no shelf ahead of all", BAD, x -> x.shift(-1, -1, NOTHING, -1, -1));
        refused("shift: no other ahead of all", BAD, x -> x.shift(NOTHING, -1, 6, -1, -1));
        refused("shift: nothing ahead of -12", BARE, x -> x.shift(NOTHING, -1, FRAME, -1, -1));
        refused("shift: the other nothing ahead of -12", BARE, x -> x.shift(FRAME, -1, NOTHING, -1, -1));
        refused("shift: a FRAME ahead of -13", KIND, x -> x.shift(FRAME, -1, BYTES, -1, -1));
        refused("shift: the other a FRAME", KIND, x -> x.shift(BYTES, -1, FRAME, -1, -1));
        refused("shift: FRAMES", KIND, x -> x.shift(FRAME, 0, FRAME, 0, 0));
        refused("shift: unlike sorts ahead of -13", KIND, x -> x.shift(BYTES, -1, SHORTS, 99, -1));
        refused("shift: unlike sorts, none", KIND, x -> x.shift(SHORTS, 0, LONGS, 0, 0));
        refused("shift: from ahead", PLACE, x -> x.shift(BYTES, -1, BYTES, 0, 1));
        refused("shift: to ahead", PLACE, x -> x.shift(BYTES, 0, BYTES, -1, 1));
        refused("shift: from behind", PLACE, x -> x.shift(BYTES, 8, BYTES, 0, 3));
        refused("shift: to behind", PLACE, x -> x.shift(BYTES, 0, BYTES, 8, 3));
        refused("shift: none from behind", PLACE, x -> x.shift(BYTES, 11, BYTES, 0, 0));
        refused("shift: none to behind", PLACE, x -> x.shift(BYTES, 0, NO_BYTES, 1, 0));
        refused("shift: one to an empty ROW", PLACE, x -> x.shift(BYTES, 0, NO_BYTES, 0, 1));
        refused("shift: below 0", PLACE, x -> x.shift(BYTES, 5, BYTES, 5, -1));
        refused("shift: far off", PLACE, x -> x.shift(BYTES, Beach.MOST, BYTES, 0, Beach.MOST));
        refused("shift: far off", PLACE, x -> x.shift(BYTES, 1, BYTES, 1, Beach.MOST));
        refused("shift: far below", PLACE, x -> x.shift(BYTES, Beach.LEAST, BYTES, 0, Beach.LEAST));
        refused("shift: none", 0, x -> x.shift(BYTES, 10, NO_BYTES, 0, 0));
        refused("shift: onto itself", 10, x -> x.shift(BYTES, 0, BYTES, 0, 10));
    }

    private static void allIsFull() {
        Start full = RefusalsTest::brimful;
        leaves(full, "move", FULL, x -> x.move(1, 3));
        leaves(full, "move: BAD ahead of FULL", BAD, x -> x.move(1, 4));
        leaves(full, "person", FULL, x -> x.person(0, 1));
        leaves(full, "person: BAD ahead of FULL", BAD, x -> x.person(-1, 1));
        leaves(full, "person: BAD ahead of FULL", BAD, x -> x.person(0, 10));
        leaves(full, "feed", FULL, x -> x.feed(0));
        leaves(full, "feed: BAD ahead of FULL", BAD, x -> x.feed(256));
        leaves(full, "feed: BAD ahead of FULL", BAD, x -> x.feed(-1));
        leaves(full, "body", FULL, x -> x.body(7));
        leaves(full, "body: BAD ahead of FULL", BAD, x -> x.body(-1));
        leaves(full, "moves: MOVES are FULL", 0, x -> x.moves(BYTES, 0, 12));
        leaves(full, "back", STATE, x -> x.back());
    }

    private static void nothingYet() {
        Start fresh = OpensLikeThat::new;
        leaves(fresh, "undo", STATE, x -> x.undo());
        leaves(fresh, "redo", STATE, x -> x.redo());
        leaves(fresh, "back", STATE, x -> x.back());
        leaves(fresh, "oneWay: BAD ahead of NOT", BAD, x -> x.oneWay(2));
        leaves(fresh, "oneWay", NOT, x -> x.oneWay(0));
        leaves(fresh, "needed", NOT, x -> x.needed(0));
        leaves(fresh, "way", NOT, x -> x.way(0, 54, 1));
        leaves(fresh, "next", NOT, x -> x.next(0, 54));
        leaves(fresh, "trace", BAD, x -> x.trace(0));
        leaves(fresh, "act", 0, x -> x.act(0, 0, 1));
    }

    private static void asks(String told, Call call) {
        leaves(RefusalsTest::furnished, told, call.on(furnished()), call);
    }

    private static void questionsChangeNothing() {
        asks("of", x -> x.of(0, 8));
        asks("leads", x -> x.leads(0, 7));
        asks("takes", x -> x.takes(1, 0, 7));
        asks("way", x -> x.way(107, 54, 1));
        asks("next", x -> x.next(107, 54));
        asks("reach", x -> x.reach(107, 2));
        asks("worst", x -> x.worst(1, 0));
        asks("ways", x -> x.ways(0, 53));
        asks("backFrom", x -> x.backFrom(107));
        asks("needed", x -> x.needed(107));
        asks("oneWay", x -> x.oneWay(1));
        asks("learn", x -> x.learn(BYTES, 0));
        asks("show", x -> x.show(107, 12, 1));
        asks("opens", x -> x.opens(BYTES, 0, 40));
        asks("bestFirst", x -> x.bestFirst(BYTES, 0, 40));
        asks("tide", x -> x.tide(BYTES, 0, 4));
        asks("two", x -> x.two(BYTES, 12));
        asks("judge", x -> x.judge(BYTES, 18));
        asks("ends", x -> x.ends(BYTES, 18));
        asks("who", x -> x.who(BYTES, 18));
        asks("begun", x -> x.begun(BYTES, 18, 0));
        asks("drawn", x -> x.drawn(7, 99, 310, 1));
        asks("led", x -> x.led(1));
        asks("trace", x -> x.trace(13));
        asks("element", x -> x.element(LONGS, 0));
        asks("taken", x -> x.taken(FRAME, 2));
        asks("count", x -> x.count(5));
    }
}
