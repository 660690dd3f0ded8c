/** Deck chairs, who can open them, and how soon; README.md tells how to use it. */
public final class OpensLikeThat {
    public static final int BAD = -1, NOT = -2, FULL = -3, STATE = -5, VOID = -2000000000;

    private static final int NOTHING_THERE = -11, OTHER_KIND = -12, NO_PLACE = -13, SIZE_BELOW_0 = -14;
    private static final int STATES = 54, A_CHAIR = 54, A_SHUT_ONE = 55;
    private static final int MOST_MOVES = 12, MOST_PEOPLE = 6, NOBODY = -1, NO_MOVE = -1;
    private static final int FOLD = 0, CLOTH = 1, NOTCH = 2, SIDE = 3, ANY = 3;
    private static final int FROM = 0, NEEDS = 1, HARD = 2, DEFT = 3, KNOWS = 4, LEARNS = 5;
    private static final int WHAT = 6, BY = 7, STATE_IN_DEED = 8;
    private static final int NEVER = 1000000;

    private final Law theLaw;
    private final MoveList kit;
    private final People people;
    private final Web web;
    private final Lessons lessons;
    private final Attendant attendant;
    private final Found found;
    private final Deed deed;
    private final Changes changes;
    private final Shelves shelves;
    private final Bodies bodies;

    public OpensLikeThat() {
        theLaw = new Law();
        kit = new MoveList();
        people = new People();
        shelves = new Shelves();
        bodies = new Bodies();
        changes = new Changes();
        deed = new Deed();
        web = new Web(theLaw, kit, people);
        lessons = new Lessons(web, kit, people, shelves);
        attendant = new Attendant(web, shelves);
        found = new Found(kit, shelves);
    }

    // ---- moves, people

    public int move(int wb, int from) {
        int what = wb / 10;
        int by = wb % 10;
        if (wb < 0 || !isMove(what, by, from, ANY, 1)) {
            return BAD;
        }
        return kit.join(what, by, from, ANY, 1);
    }

    public int moves(int shelf, int i, int n) {
        if (!shelves.has(shelf) || n < 1 || n > MOST_MOVES) {
            return BAD;
        }
        if (shelves.isBare(shelf)) {
            return 0;
        }
        if (!shelves.isBytes(shelf)) {
            return OTHER_KIND;
        }
        int came = 0;
        while (came < n && comesFromRow(shelf, i + 5 * came)) {
            came++;
        }
        return came;
    }

    public int person(int deft, int learns) {
        if (!fits(0, DEFT, deft) || !fits(0, LEARNS, learns)) {
            return BAD;
        }
        return people.join(deft, learns);
    }

    public int mend(int number, int what, int v) {
        if (!canMend(number, what) || !fits(number, what, v)) {
            return BAD;
        }
        int was = numberAt(number, what);
        if (was != v) {
            setNumber(number, what, v);
            changes.came(number, what, was, v);
        }
        return was;
    }

    public int of(int number, int what) {
        if (what == STATE_IN_DEED) {
            return number == 0 ? deed.state : BAD;
        }
        if (what == WHAT) {
            return kit.has(number) ? kit.what[number] : BAD;
        }
        if (what == BY) {
            return kit.has(number) ? kit.by[number] : BAD;
        }
        return canMend(number, what) ? numberAt(number, what) : BAD;
    }

    public int feed(int letter) {
        return letter < 0 || letter > 255 ? BAD : theLaw.comes(letter);
    }

    public int law() {
        return theLaw.become();
    }

    public int leads(int move, int state) {
        return kit.has(move) && isState(state) ? kit.after(move, state) : BAD;
    }

    public int takes(int one, int move, int state) {
        return isOneOrNobody(one) && kit.has(move) && isState(state) ? web.seconds(one, move, state) : BAD;
    }

    // ---- ways

    public int way(int ps, int to, int what) {
        if (!isPs(ps) || !isAim(to) || what < 0 || what > 1) {
            return BAD;
        }
        web.weave(oneIn(ps));
        web.measure(to, what == 1, NO_MOVE);
        int far = web.farFrom(stateIn(ps));
        return far < NEVER ? far : NOT;
    }

    public int next(int ps, int to) {
        if (!isPs(ps) || !isAim(to)) {
            return BAD;
        }
        web.weave(oneIn(ps));
        web.measure(to, true, NO_MOVE);
        return web.firstMove(stateIn(ps));
    }

    public int reach(int ps, int what) {
        if (!isPs(ps) || what < 0 || what > 2) {
            return BAD;
        }
        web.weave(oneIn(ps));
        web.flood(stateIn(ps), what == 2);
        return web.flooded(what == 1);
    }

    public int worst(int one, int what) {
        if (!isOneOrNobody(one) || what < 0 || what > 2) {
            return BAD;
        }
        web.weave(one);
        web.measure(A_CHAIR, false, NO_MOVE);
        if (what == 2) {
            return STATES - web.canCome();
        }
        int farthest = web.farthest();
        return farthest < 0 || what == 0 ? farthest : web.farFrom(farthest);
    }

    public int ways(int from, int to) {
        if (!isState(from) || !isState(to)) {
            return BAD;
        }
        web.weave(NOBODY);
        web.measure(to, false, NO_MOVE);
        return web.shortest(from, to);
    }

    public int backFrom(int ps) {
        if (!isPs(ps)) {
            return BAD;
        }
        int state = stateIn(ps);
        web.weave(oneIn(ps));
        web.flood(state, false);
        web.measure(state, false, NO_MOVE);
        return web.allComeBack() ? 1 : 0;
    }

    public int needed(int ps) {
        if (!isPs(ps)) {
            return BAD;
        }
        int state = stateIn(ps);
        web.weave(oneIn(ps));
        web.measure(A_CHAIR, false, NO_MOVE);
        if (web.farFrom(state) >= NEVER) {
            return NOT;
        }
        int bits = 0;
        for (int m = 0; m < kit.size; m++) {
            web.measure(A_CHAIR, false, m);
            if (web.farFrom(state) >= NEVER) {
                bits |= 1 << m;
            }
        }
        return bits;
    }

    public int oneWay(int what) {
        if (what < 0 || what > 1) {
            return BAD;
        }
        web.weave(NOBODY);
        int which = NOT;
        int fewest = STATES + 1;
        for (int m = 0; m < kit.size; m++) {
            web.measure(A_CHAIR, false, m);
            int left = web.canCome();
            if (left < fewest) {
                fewest = left;
                which = m;
            }
        }
        return which < 0 || what == 0 ? which : fewest;
    }

    // ---- learners, attendants

    public int learn(int shelf, int one) {
        int refusal = refusesOne(shelf, one);
        return refusal != 0 ? refusal : lessons.knownAfter(shelf, one);
    }

    public int show(int ps, int s, int what) {
        if (!isPs(ps) || oneIn(ps) == NOBODY || s < 0 || s > 999 || what < 0 || what > 1) {
            return BAD;
        }
        int bits = lessons.fewestShown(oneIn(ps), stateIn(ps), s);
        return bits < 0 || what == 1 ? bits : Integer.bitCount(bits);
    }

    public int opens(int shelf, int one, int s) {
        int refusal = s < -2 || s > 9999 ? BAD : refusesOne(shelf, one);
        if (refusal != 0) {
            return refusal;
        }
        web.weave(one);
        attendant.look(shelf);
        if (s == -2) {
            return attendant.left();
        }
        return s == -1 ? attendant.total() : attendant.openBy(s);
    }

    public int bestFirst(int shelf, int one, int s) {
        int refusal = s < 0 || s > 9999 ? BAD : refusesOne(shelf, one);
        if (refusal != 0) {
            return refusal;
        }
        web.weave(one);
        attendant.look(shelf);
        attendant.shortestFirst();
        return attendant.openBy(s);
    }

    public int tide(int shelf, int one, int t) {
        int refusal = t < 1 || t > 999 ? BAD : refusesOne(shelf, one);
        if (refusal != 0) {
            return refusal;
        }
        web.weave(one);
        attendant.look(shelf);
        return attendant.firstLate(t);
    }

    public int two(int shelf, int ab) {
        int one = ab / 10;
        int other = ab % 10;
        int refusal = one == other || !people.has(other) ? BAD : refusesOne(shelf, one);
        if (refusal != 0) {
            return refusal;
        }
        web.weave(other);
        attendant.look(shelf);
        attendant.rememberAsOther();
        web.weave(one);
        attendant.look(shelf);
        return Math.max(0, attendant.total() - attendant.totalOfTwo());
    }

    // ---- found, drawn

    public int judge(int shelf, int state) {
        int refusal = refusesFound(shelf, state);
        return refusal != 0 ? refusal : found.firstRefused(shelf, state);
    }

    public int ends(int shelf, int state) {
        int refusal = refusesFound(shelf, state);
        if (refusal != 0) {
            return refusal;
        }
        found.firstRefused(shelf, state);
        return found.last;
    }

    public int who(int shelf, int state) {
        int refusal = refusesFound(shelf, state);
        if (refusal != 0) {
            return refusal;
        }
        int bits = 0;
        for (int one = 0; one < people.size; one++) {
            if (canMakeAll(one, shelf, state)) {
                bits |= 1 << one;
            }
        }
        return bits;
    }

    public int begun(int shelf, int end, int what) {
        int refusal = what < 0 || what > 1 ? BAD : refusesFound(shelf, end);
        if (refusal != 0) {
            return refusal;
        }
        int many = 0;
        int least = NOT;
        for (int state = STATES - 1; state >= 0; state--) {
            if (found.firstRefused(shelf, state) < 0 && found.last == end) {
                many++;
                least = state;
            }
        }
        return what == 0 ? many : least;
    }

    public int drawn(int state, int seed, int nm, int what) {
        int n = nm / 100;
        int m = nm % 100;
        if (!isState(state) || n < 1 || n > 50 || m < 1 || m > 60 || what < 0 || what > 1) {
            return BAD;
        }
        found.draw(state, seed, n, m);
        return what == 0 ? found.chairsAtEnds : found.chairsOnWay;
    }

    // ---- in deed

    public int make(int one, int move) {
        if (!people.has(one) || !kit.has(move)) {
            return BAD;
        }
        int to = kit.after(move, deed.state);
        int seconds = web.seconds(one, move, deed.state);
        if (to < 0 || seconds <= 0) {
            return NOT;
        }
        people.hasDone(one, move);
        deed.goTo(to, seconds);
        return to;
    }

    public int lay(int state) {
        return isState(state) ? deed.layInto(state) : BAD;
    }

    public int led(int what) {
        return what < 0 || what > 3 ? BAD : deed.told[what];
    }

    public int image() {
        return deed.store(people);
    }

    public int back() {
        return deed.restore(people);
    }

    public int undo() {
        if (!changes.stepBack()) {
            return STATE;
        }
        int c = changes.done;
        setNumber(changes.number[c], changes.what[c], changes.old[c]);
        return changes.done;
    }

    public int redo() {
        if (!changes.stepOn()) {
            return STATE;
        }
        int c = changes.done - 1;
        setNumber(changes.number[c], changes.what[c], changes.fresh[c]);
        return changes.all - changes.done;
    }

    // ---- acts, shelves

    public int body(int kind) {
        return Bodies.isKind(kind) ? bodies.join(kind) : BAD;
    }

    public int act(int body, int act, int x) {
        return bodies.perform(body, act, x);
    }

    public int trace(int i) {
        return bodies.tracedAt(i);
    }

    public int keep(int shelf, int body) {
        if (!shelves.has(shelf) || body != -1 && !bodies.has(body)) {
            return BAD;
        }
        shelves.hold(shelf, body < 0 ? Shelves.BARE : Shelves.FRAME, body);
        return 1;
    }

    public int row(int shelf, int sort, int n) {
        if (!shelves.has(shelf) || sort < 0 || sort > 4 || n > Shelves.LONGEST) {
            return BAD;
        }
        if (n < 0) {
            return SIZE_BELOW_0;
        }
        shelves.hold(shelf, sort, n);
        return 1;
    }

    public int put(int shelf, int i, long v) {
        int refusal = shelves.refusesPlace(shelf, i);
        if (refusal != 0) {
            return refusal;
        }
        shelves.setAt(shelf, i, v);
        return 1;
    }

    public long element(int shelf, int i) {
        return shelves.refusesPlace(shelf, i) != 0 ? Long.MIN_VALUE : shelves.at(shelf, i);
    }

    public int shift(int shelf, int i, int other, int j, int n) {
        int refusal = shelves.refusesShift(shelf, i, other, j, n);
        if (refusal != 0) {
            return refusal;
        }
        System.arraycopy(shelves.rows[shelf], i, shelves.rows[other], j, n);
        return n;
    }

    public int taken(int shelf, int k) {
        if (!shelves.has(shelf) || !Bodies.isKind(k)) {
            return BAD;
        }
        if (shelves.isBare(shelf)) {
            return NOTHING_THERE;
        }
        int kind = shelves.isFrame(shelf) ? bodies.kindOf(shelves.held[shelf]) : -1;
        return Bodies.isUnder(kind, k) ? kind : OTHER_KIND;
    }

    public int count(int what) {
        switch (what) {
            case 0: return kit.size;
            case 1: return people.size;
            case 2: return theLaw.onTape;
            case 3: return changes.done;
            case 4: return bodies.size;
            case 5: return bodies.ran;
            default: return BAD;
        }
    }

    // ---- states and moves as numbers

    private static boolean isState(int state) {
        return state >= 0 && state < STATES;
    }

    private static boolean isAim(int to) {
        return to >= 0 && to <= A_SHUT_ONE;
    }

    private static int partOf(int what, int state) {
        switch (what) {
            case FOLD: return state / 18;
            case CLOTH: return state / 6 % 3;
            case NOTCH: return state / 2 % 3;
            default: return state % 2;
        }
    }

    private static int weightOf(int what) {
        switch (what) {
            case FOLD: return 18;
            case CLOTH: return 6;
            case NOTCH: return 2;
            default: return 1;
        }
    }

    private static boolean isShut(int state) {
        return partOf(FOLD, state) == 0;
    }

    private static boolean isChair(int state) {
        return partOf(FOLD, state) == 2 && partOf(CLOTH, state) == 0 && partOf(SIDE, state) == 0;
    }

    private static boolean meets(int state, int aim) {
        if (aim == A_CHAIR) {
            return isChair(state);
        }
        return aim == A_SHUT_ONE ? isShut(state) : state == aim;
    }

    private static boolean isFrom(int what, int from) {
        return from >= 0 && (from < (what == SIDE ? 2 : 3) || from == ANY);
    }

    private static boolean isMove(int what, int by, int from, int needs, int hard) {
        return what >= 0 && what <= SIDE && by >= 1 && by <= 2 && isFrom(what, from)
            && needs >= 0 && needs <= ANY && hard >= 0 && hard <= 9;
    }

    private boolean isOneOrNobody(int one) {
        return one == NOBODY || people.has(one);
    }

    private boolean isPs(int ps) {
        return ps >= 0 && isOneOrNobody(oneIn(ps)) && isState(stateIn(ps));
    }

    private static int oneIn(int ps) {
        return ps / 100 - 1;
    }

    private static int stateIn(int ps) {
        return ps % 100;
    }

    private boolean comesFromRow(int shelf, int i) {
        if (i < 0 || i > shelves.held[shelf] - 5) {
            return false;
        }
        int what = (int) shelves.at(shelf, i);
        int by = (int) shelves.at(shelf, i + 1);
        int from = (int) shelves.at(shelf, i + 2);
        int needs = (int) shelves.at(shelf, i + 3);
        int hard = (int) shelves.at(shelf, i + 4);
        return isMove(what, by, from, needs, hard) && kit.join(what, by, from, needs, hard) >= 0;
    }

    private int refusesOne(int shelf, int one) {
        return shelves.has(shelf) && people.has(one) ? shelves.refusesBytes(shelf) : BAD;
    }

    private int refusesFound(int shelf, int state) {
        return shelves.has(shelf) && isState(state) ? shelves.refusesBytes(shelf) : BAD;
    }

    private boolean canMakeAll(int one, int shelf, int state) {
        int at = state;
        for (int i = 0; i < shelves.held[shelf]; i++) {
            int move = (int) shelves.at(shelf, i);
            int to = kit.after(move, at);
            if (to < 0 || web.seconds(one, move, at) <= 0) {
                return false;
            }
            at = to;
        }
        return true;
    }

    // ---- the numbers of mend()

    private boolean canMend(int number, int what) {
        if (what >= FROM && what <= HARD) {
            return kit.has(number);
        }
        return what >= DEFT && what <= LEARNS && people.has(number);
    }

    private boolean fits(int number, int what, int v) {
        switch (what) {
            case FROM: return kit.has(number) && isFrom(kit.what[number], v);
            case NEEDS: return v >= 0 && v <= ANY;
            case KNOWS: return v >= 0 && v < 1 << MOST_MOVES;
            case LEARNS: return v >= 1 && v <= 9;
            default: return v >= 0 && v <= 9;
        }
    }

    private int numberAt(int number, int what) {
        if (!canMend(number, what)) {
            return BAD;
        }
        switch (what) {
            case FROM: return kit.from[number];
            case NEEDS: return kit.needs[number];
            case HARD: return kit.hard[number];
            case DEFT: return people.deft[number];
            case KNOWS: return people.knows[number];
            default: return people.learns[number];
        }
    }

    private void setNumber(int number, int what, int v) {
        if (!canMend(number, what)) {
            return;
        }
        switch (what) {
            case FROM: kit.from[number] = v; break;
            case NEEDS: kit.needs[number] = v; break;
            case HARD: kit.hard[number] = v; break;
            case DEFT: people.deft[number] = v; break;
            case KNOWS: people.knows[number] = v; break;
            default: people.learns[number] = v; break;
        }
        if (what <= NEEDS) {
            kit.chart(number);
        }
    }

    /** THE TAPE, and THE LAW that it became. */
    private static final class Law {
        private static final int LONGEST = 120, DEEPEST = 6, END = -1;
        // What is told in code: a number as it is, else less than 0, so that one row holds both.
        private static final int LINE_ENDS = -1, IF = -2, NEGATE = -3, INVERT = -4, FIRST_NAME = -300;
        private static final int OPERAND = 5, COMPARISON = 2;

        private final int[] tape = new int[LONGEST];
        private final int[] stack = new int[LONGEST];
        private final int[] named = new int[6];
        // A text with a FAULT must leave the law ahead of it, so it is written beside it.
        private int[] code = new int[LONGEST + 1];
        private int[] draft = new int[LONGEST + 1];
        private int codeSize;
        private int draftSize;
        private int place;
        private int top;
        int onTape;

        int comes(int letter) {
            if (onTape >= LONGEST) {
                return FULL;
            }
            tape[onTape] = letter;
            onTape++;
            return onTape;
        }

        int become() {
            place = 0;
            draftSize = 0;
            boolean sound = readText();
            onTape = 0;
            if (!sound) {
                return -100 - place;
            }
            int[] spare = code;
            code = draft;
            draft = spare;
            codeSize = draftSize;
            return 1;
        }

        int secondsFor(int deft, int hard, int fold, int notch, int knows, int move) {
            if (codeSize == 0) {
                return Math.max(1, (1 + hard) * (2 - knows) - deft / 3);
            }
            named[0] = deft;
            named[1] = hard;
            named[2] = fold;
            named[3] = notch;
            named[4] = knows;
            named[5] = move;
            return Math.max(0, Math.min(99, workedOut()));
        }

        private boolean readText() {
            boolean sound = readLine();
            for (int k = 0; k < LONGEST && sound && ahead() == ';'; k++) {
                place++;
                sound = readLine();
            }
            return sound && place == onTape;
        }

        private boolean readLine() {
            if (!readLevel(0, 0)) {
                return false;
            }
            if (ahead() == '?') {
                place++;
                write(IF);
                if (!readLevel(0, 0)) {
                    return false;
                }
            }
            write(LINE_ENDS);
            return true;
        }

        private boolean readLevel(int level, int depth) {
            if (level >= OPERAND) {
                return readOperand(depth);
            }
            boolean sound = readLevel(level + 1, depth);
            int most = level == COMPARISON ? 1 : LONGEST;
            for (int k = 0; k < most && sound && levelOf(ahead()) == level; k++) {
                int sign = ahead();
                place++;
                sound = readLevel(level + 1, depth);
                write(-sign);
            }
            return sound;
        }

        private boolean readOperand(int depth) {
            int sign = ahead();
            if (sign >= '0' && sign <= '9') {
                readNumber();
                return true;
            }
            int name = nameOf(sign);
            if (name >= 0) {
                place++;
                write(FIRST_NAME - name);
                return true;
            }
            if (sign != '(' && sign != '!' && sign != '-' || depth >= DEEPEST) {
                return false;
            }
            place++;
            if (sign == '(') {
                boolean closed = readLevel(0, depth + 1) && ahead() == ')';
                place += closed ? 1 : 0;
                return closed;
            }
            boolean sound = readOperand(depth + 1);
            write(sign == '!' ? INVERT : NEGATE);
            return sound;
        }

        private void readNumber() {
            int number = 0;
            for (int k = 0; k < 4 && ahead() >= '0' && ahead() <= '9'; k++) {
                number = number * 10 + ahead() - '0';
                place++;
            }
            write(number);
        }

        private int ahead() {
            return place >= 0 && place < onTape ? tape[place] : END;
        }

        private void write(int told) {
            if (draftSize < draft.length) {
                draft[draftSize] = told;
                draftSize++;
            }
        }

        private static int nameOf(int sign) {
            switch (sign) {
                case 'd': return 0;
                case 'h': return 1;
                case 'f': return 2;
                case 'n': return 3;
                case 'k': return 4;
                case 'm': return 5;
                default: return -1;
            }
        }

        private static int levelOf(int sign) {
            switch (sign) {
                case '|': return 0;
                case '&': return 1;
                case '<': case '=': case '>': return COMPARISON;
                case '+': case '-': return 3;
                case '*': case '/': case '%': return 4;
                default: return -1;
            }
        }

        private int workedOut() {
            top = 0;
            boolean passedOver = false;
            for (int i = 0; i < codeSize; i++) {
                int told = code[i];
                if (passedOver) {
                    passedOver = told != LINE_ENDS;
                } else if (told == LINE_ENDS) {
                    return pop();
                } else if (told == IF) {
                    passedOver = pop() == 0;
                } else {
                    step(told);
                }
            }
            return 0;
        }

        private void step(int told) {
            if (told >= 0) {
                push(told);
            } else if (told <= FIRST_NAME) {
                int name = FIRST_NAME - told;
                push(name < named.length ? named[name] : 0);
            } else if (told == NEGATE) {
                push(-pop());
            } else if (told == INVERT) {
                push(pop() == 0 ? 1 : 0);
            } else {
                int right = pop();
                push(joined(-told, pop(), right));
            }
        }

        private static int joined(int sign, int a, int b) {
            switch (sign) {
                case '|': return a != 0 || b != 0 ? 1 : 0;
                case '&': return a != 0 && b != 0 ? 1 : 0;
                case '<': return a < b ? 1 : 0;
                case '=': return a == b ? 1 : 0;
                case '>': return a > b ? 1 : 0;
                case '+': return a + b;
                case '-': return a - b;
                case '*': return a * b;
                case '/': return b == 0 ? 0 : a / b;
                default: return b == 0 ? 0 : a % b;
            }
        }

        private void push(int v) {
            if (top < stack.length) {
                stack[top] = v;
                top++;
            }
        }

        private int pop() {
            if (top <= 0) {
                return 0;
            }
            top--;
            return stack[top];
        }
    }

    /** The MOVES, with a chart of where each leads, since every way asks that often. */
    private static final class MoveList {
        final int[] what = new int[MOST_MOVES];
        final int[] by = new int[MOST_MOVES];
        final int[] from = new int[MOST_MOVES];
        final int[] needs = new int[MOST_MOVES];
        final int[] hard = new int[MOST_MOVES];
        private final int[] charted = new int[MOST_MOVES * STATES];
        int size;

        boolean has(int move) {
            return move >= 0 && move < size;
        }

        int join(int what, int by, int from, int needs, int hard) {
            if (size >= MOST_MOVES) {
                return FULL;
            }
            int move = size;
            size++;
            this.what[move] = what;
            this.by[move] = by;
            this.from[move] = from;
            this.needs[move] = needs;
            this.hard[move] = hard;
            chart(move);
            return move;
        }

        void chart(int move) {
            if (!has(move)) {
                return;
            }
            for (int state = 0; state < STATES; state++) {
                charted[move * STATES + state] = endOf(move, state);
            }
        }

        /** NOT: there is no such MOVE, or it MAY not be made. */
        int after(int move, int state) {
            return has(move) && isState(state) ? charted[move * STATES + state] : NOT;
        }

        private int endOf(int move, int state) {
            int ahead = partOf(what[move], state);
            boolean may = (from[move] == ANY || from[move] == ahead)
                && (needs[move] == ANY || needs[move] == partOf(FOLD, state));
            if (!may) {
                return NOT;
            }
            int then = (ahead + by[move]) % (what[move] == SIDE ? 2 : 3);
            return state + (then - ahead) * weightOf(what[move]);
        }
    }

    /** The PEOPLE, and how often each has made each MOVE in deed. */
    private static final class People {
        final int[] deft = new int[MOST_PEOPLE];
        final int[] knows = new int[MOST_PEOPLE];
        final int[] learns = new int[MOST_PEOPLE];
        final int[] done = new int[MOST_PEOPLE * MOST_MOVES];
        int size;

        boolean has(int one) {
            return one >= 0 && one < size;
        }

        int join(int deft, int learns) {
            if (size >= MOST_PEOPLE) {
                return FULL;
            }
            this.deft[size] = deft;
            this.learns[size] = learns;
            size++;
            return size - 1;
        }

        int knownBy(int one) {
            return has(one) ? knows[one] : 0;
        }

        void hasDone(int one, int move) {
            if (!has(one) || move < 0 || move >= MOST_MOVES) {
                return;
            }
            int at = one * MOST_MOVES + move;
            done[at]++;
            if (done[at] >= learns[one]) {
                knows[one] |= 1 << move;
            }
        }
    }

    /** The STATES as they hang together by the MOVES that one can make. */
    private static final class Web {
        private static final int MOST_TIES = MOST_MOVES * STATES, NINE = 9, MOST_WAYS = 9999;

        private final Law law;
        private final MoveList kit;
        private final People people;
        // The seconds of a MOVE hang on FOLD and NOTCH alone: nine, not known and then known.
        private final int[] unknown = new int[MOST_MOVES * NINE];
        private final int[] known = new int[MOST_MOVES * NINE];
        private final int[] tieFrom = new int[MOST_TIES];
        private final int[] tieTo = new int[MOST_TIES];
        private final int[] tieMove = new int[MOST_TIES];
        private final int[] tieSeconds = new int[MOST_TIES];
        private final int[] far = new int[STATES];
        private final int[] many = new int[STATES];
        private final boolean[] wet = new boolean[STATES];
        private int ties;

        Web(Law law, MoveList kit, People people) {
            this.law = law;
            this.kit = kit;
            this.people = people;
        }

        int seconds(int one, int move, int state) {
            return secondsIf(one, move, state, people.knownBy(one) >> move & 1);
        }

        private int secondsIf(int one, int move, int state, int knows) {
            if (!people.has(one) || !kit.has(move)) {
                return 1;
            }
            return law.secondsFor(people.deft[one], kit.hard[move],
                partOf(FOLD, state), partOf(NOTCH, state), knows, move);
        }

        void weave(int one) {
            weigh(one);
            tie(people.knownBy(one));
        }

        void weigh(int one) {
            for (int i = 0; i < kit.size * NINE; i++) {
                int state = i % NINE / 3 * 18 + i % 3 * 2;
                unknown[i] = secondsIf(one, i / NINE, state, 0);
                known[i] = secondsIf(one, i / NINE, state, 1);
            }
        }

        void tie(int knows) {
            ties = 0;
            for (int move = 0; move < kit.size; move++) {
                boolean isKnown = (knows >> move & 1) == 1;
                for (int state = 0; state < STATES; state++) {
                    int i = move * NINE + partOf(FOLD, state) * 3 + partOf(NOTCH, state);
                    int to = kit.after(move, state);
                    int seconds = isKnown ? known[i] : unknown[i];
                    if (to >= 0 && seconds > 0 && ties < MOST_TIES) {
                        tieFrom[ties] = state;
                        tieTo[ties] = to;
                        tieMove[ties] = move;
                        tieSeconds[ties] = seconds;
                        ties++;
                    }
                }
            }
        }

        /** How far each STATE is from an aim, without one of the MOVES. */
        void measure(int aim, boolean bySeconds, int without) {
            for (int state = 0; state < STATES; state++) {
                far[state] = meets(state, aim) ? 0 : NEVER;
            }
            boolean nearer = true;
            for (int round = 0; round < STATES && nearer; round++) {
                nearer = false;
                for (int t = 0; t < ties; t++) {
                    int over = far[tieTo[t]] + (bySeconds ? tieSeconds[t] : 1);
                    if (over < far[tieFrom[t]] && tieMove[t] != without) {
                        far[tieFrom[t]] = over;
                        nearer = true;
                    }
                }
            }
        }

        int farFrom(int state) {
            return isState(state) ? far[state] : NEVER;
        }

        /** Behind measure() by seconds: the least MOVE that begins a shortest way. */
        int firstMove(int state) {
            int here = farFrom(state);
            if (here == 0 || here >= NEVER) {
                return NOT;
            }
            for (int t = 0; t < ties; t++) {
                if (tieFrom[t] == state && far[tieTo[t]] + tieSeconds[t] == here) {
                    return tieMove[t];
                }
            }
            return NOT;
        }

        int canCome() {
            int can = 0;
            for (int state = 0; state < STATES; state++) {
                can += far[state] < NEVER ? 1 : 0;
            }
            return can;
        }

        int farthest() {
            int which = NOT;
            int most = -1;
            for (int state = 0; state < STATES; state++) {
                if (far[state] < NEVER && far[state] > most) {
                    most = far[state];
                    which = state;
                }
            }
            return which;
        }

        /** Behind measure() by MOVES to the same STATE: how many ways are that short. */
        int shortest(int from, int to) {
            if (farFrom(from) >= NEVER || !isState(to)) {
                return 0;
            }
            for (int state = 0; state < STATES; state++) {
                many[state] = state == to ? 1 : 0;
            }
            for (int away = 1; away <= farFrom(from); away++) {
                for (int t = 0; t < ties; t++) {
                    if (far[tieFrom[t]] == away && far[tieTo[t]] == away - 1) {
                        many[tieFrom[t]] = Math.min(MOST_WAYS, many[tieFrom[t]] + many[tieTo[t]]);
                    }
                }
            }
            return many[from];
        }

        /** Wets each STATE that can be reached; unshut: without a SHUT one. */
        void flood(int state, boolean unshut) {
            for (int s = 0; s < STATES; s++) {
                wet[s] = s == state && !(unshut && isShut(s));
            }
            boolean rises = true;
            for (int round = 0; round < STATES && rises; round++) {
                rises = false;
                for (int t = 0; t < ties; t++) {
                    if (wet[tieFrom[t]] && !wet[tieTo[t]] && !(unshut && isShut(tieTo[t]))) {
                        wet[tieTo[t]] = true;
                        rises = true;
                    }
                }
            }
        }

        int flooded(boolean chairsOnly) {
            int how = 0;
            for (int state = 0; state < STATES; state++) {
                how += wet[state] && (!chairsOnly || isChair(state)) ? 1 : 0;
            }
            return how;
        }

        /** Behind flood() from a STATE and measure() to it. */
        boolean allComeBack() {
            for (int state = 0; state < STATES; state++) {
                if (wet[state] && far[state] >= NEVER) {
                    return false;
                }
            }
            return true;
        }
    }

    /** What one KNOWS after being shown MOVES, and which it must be shown. */
    private static final class Lessons {
        private static final int MOST_SHOWN = 3;

        private final Web web;
        private final MoveList kit;
        private final People people;
        private final Shelves shelves;
        private final int[] seen = new int[MOST_MOVES];

        Lessons(Web web, MoveList kit, People people, Shelves shelves) {
            this.web = web;
            this.kit = kit;
            this.people = people;
            this.shelves = shelves;
        }

        int knownAfter(int shelf, int one) {
            if (!shelves.has(shelf) || !people.has(one)) {
                return BAD;
            }
            for (int move = 0; move < MOST_MOVES; move++) {
                seen[move] = 0;
            }
            boolean such = true;
            for (int i = 0; i < shelves.held[shelf] && such; i++) {
                int move = (int) shelves.at(shelf, i);
                such = kit.has(move);
                if (such) {
                    seen[move]++;
                }
            }
            int bits = people.knows[one];
            for (int move = 0; move < kit.size; move++) {
                bits |= seen[move] >= people.learns[one] ? 1 << move : 0;
            }
            return bits;
        }

        int fewestShown(int one, int state, int s) {
            int knows = people.knownBy(one);
            web.weigh(one);
            for (int many = 0; many <= MOST_SHOWN; many++) {
                for (int bits = 0; bits < 1 << kit.size; bits++) {
                    // What is known already need not be shown: a set with it is never among the fewest.
                    if ((bits & knows) == 0 && Integer.bitCount(bits) == many && isSoon(knows | bits, state, s)) {
                        return bits;
                    }
                }
            }
            return NOT;
        }

        private boolean isSoon(int knows, int state, int s) {
            web.tie(knows);
            web.measure(A_CHAIR, true, NO_MOVE);
            return web.farFrom(state) <= s;
        }
    }

    /** Opens the chairs of a ROW. */
    private static final class Attendant {
        private static final int IS_LEFT = -1;

        private final Web web;
        private final Shelves shelves;
        private final int[] times = new int[Shelves.LONGEST];
        private final int[] othersTimes = new int[Shelves.LONGEST];
        private int chairs;

        Attendant(Web web, Shelves shelves) {
            this.web = web;
            this.shelves = shelves;
        }

        /** Behind weave() for the one who opens them. */
        void look(int shelf) {
            web.measure(A_CHAIR, true, NO_MOVE);
            chairs = chairsOn(shelf);
            for (int k = 0; k < chairs; k++) {
                int far = web.farFrom((int) shelves.at(shelf, k));
                times[k] = far < NEVER ? far : IS_LEFT;
            }
        }

        // A byte that is no STATE is no chair, not one that is left: it ends the ROW.
        private int chairsOn(int shelf) {
            int length = shelves.isBytes(shelf) ? Math.min(Shelves.LONGEST, shelves.held[shelf]) : 0;
            int how = 0;
            while (how < length && isState((int) shelves.at(shelf, how))) {
                how++;
            }
            return how;
        }

        void rememberAsOther() {
            System.arraycopy(times, 0, othersTimes, 0, chairs);
        }

        int left() {
            int how = 0;
            for (int k = 0; k < chairs; k++) {
                how += times[k] == IS_LEFT ? 1 : 0;
            }
            return how;
        }

        int total() {
            int sum = 0;
            for (int k = 0; k < chairs; k++) {
                sum += Math.max(0, times[k]);
            }
            return sum;
        }

        int openBy(int s) {
            int open = 0;
            int now = 0;
            for (int k = 0; k < chairs; k++) {
                now += Math.max(0, times[k]);
                open += times[k] != IS_LEFT && now <= s ? 1 : 0;
            }
            return open;
        }

        void shortestFirst() {
            for (int k = 1; k < chairs; k++) {
                for (int i = k; i > 0 && times[i - 1] > times[i]; i--) {
                    int shorter = times[i];
                    times[i] = times[i - 1];
                    times[i - 1] = shorter;
                }
            }
        }

        int firstLate(int t) {
            int now = 0;
            for (int k = 0; k < chairs; k++) {
                now += Math.max(0, times[k]);
                if (times[k] == IS_LEFT || now > (k + 1) * t) {
                    return k;
                }
            }
            return NOT;
        }

        int totalOfTwo() {
            int freeOne = 0;
            int freeOther = 0;
            for (int k = 0; k < chairs; k++) {
                if (freeOne <= freeOther) {
                    freeOne += Math.max(0, times[k]);
                } else {
                    freeOther += Math.max(0, othersTimes[k]);
                }
            }
            return Math.max(freeOne, freeOther);
        }
    }

    /** Chairs as they were found, or drawn. */
    private static final class Found {
        private final MoveList kit;
        private final Shelves shelves;
        int last;
        int chairsAtEnds;
        int chairsOnWay;

        Found(MoveList kit, Shelves shelves) {
            this.kit = kit;
            this.shelves = shelves;
        }

        /** Leaves the STATE that it came to in last. */
        int firstRefused(int shelf, int state) {
            last = state;
            if (!shelves.has(shelf)) {
                return NOT;
            }
            for (int i = 0; i < shelves.held[shelf]; i++) {
                int to = kit.after((int) shelves.at(shelf, i), last);
                if (to < 0) {
                    return i;
                }
                last = to;
            }
            return NOT;
        }

        void draw(int state, int seed, int n, int m) {
            int z = seed;
            chairsAtEnds = 0;
            chairsOnWay = 0;
            for (int chair = 0; chair < n; chair++) {
                int at = state;
                boolean wasChair = isChair(at);
                for (int step = 0; step < m; step++) {
                    z = z * 1103515245 + 12345;
                    at = drawnFrom(at, z >>> 8);
                    wasChair = wasChair || isChair(at);
                }
                chairsAtEnds += isChair(at) ? 1 : 0;
                chairsOnWay += wasChair ? 1 : 0;
            }
        }

        private int drawnFrom(int state, int lot) {
            int can = 0;
            for (int move = 0; move < kit.size; move++) {
                can += kit.after(move, state) >= 0 ? 1 : 0;
            }
            if (can == 0) {
                return state;
            }
            int ahead = lot % can;
            for (int move = 0; move < kit.size; move++) {
                int to = kit.after(move, state);
                if (to >= 0 && ahead == 0) {
                    return to;
                }
                ahead -= to >= 0 ? 1 : 0;
            }
            return state;
        }
    }

    /** The one chair in deed, and AN IMAGE of it. */
    private static final class Deed {
        private static final int LED_MOVES = 0, LED_SECONDS = 1, LED_CHAIRS = 2, LED_LAID = 3, LED = 4;

        final int[] told = new int[LED];
        int state;
        private final int[] keptTold = new int[LED];
        private final int[] keptKnows = new int[MOST_PEOPLE];
        private final int[] keptDone = new int[MOST_PEOPLE * MOST_MOVES];
        private int keptState;
        private boolean isKept;

        void goTo(int to, int seconds) {
            told[LED_MOVES]++;
            told[LED_SECONDS] += seconds;
            told[LED_CHAIRS] += isChair(to) && !isChair(state) ? 1 : 0;
            state = to;
        }

        int layInto(int to) {
            int was = state;
            state = to;
            told[LED_LAID]++;
            return was;
        }

        // Whoever has not come yet KNOWS nothing and has done nothing in these rows: so it is kept whole.
        int store(People people) {
            isKept = true;
            keptState = state;
            System.arraycopy(told, 0, keptTold, 0, LED);
            System.arraycopy(people.knows, 0, keptKnows, 0, MOST_PEOPLE);
            System.arraycopy(people.done, 0, keptDone, 0, MOST_PEOPLE * MOST_MOVES);
            return told[LED_MOVES];
        }

        int restore(People people) {
            if (!isKept) {
                return STATE;
            }
            state = keptState;
            System.arraycopy(keptTold, 0, told, 0, LED);
            System.arraycopy(keptKnows, 0, people.knows, 0, MOST_PEOPLE);
            System.arraycopy(keptDone, 0, people.done, 0, MOST_PEOPLE * MOST_MOVES);
            return told[LED_MOVES];
        }
    }

    /** CHANGES: the first done of them stand, those behind are UNDONE. */
    private static final class Changes {
        private static final int MOST = 40;

        final int[] number = new int[MOST];
        final int[] what = new int[MOST];
        final int[] old = new int[MOST];
        final int[] fresh = new int[MOST];
        int done;
        int all;

        void came(int number, int what, int old, int fresh) {
            if (done >= MOST) {
                forgetFirst();
            }
            this.number[done] = number;
            this.what[done] = what;
            this.old[done] = old;
            this.fresh[done] = fresh;
            done++;
            all = done;
        }

        boolean stepBack() {
            if (done <= 0) {
                return false;
            }
            done--;
            return true;
        }

        boolean stepOn() {
            if (done >= all) {
                return false;
            }
            done++;
            return true;
        }

        private void forgetFirst() {
            System.arraycopy(number, 1, number, 0, MOST - 1);
            System.arraycopy(what, 1, what, 0, MOST - 1);
            System.arraycopy(old, 1, old, 0, MOST - 1);
            System.arraycopy(fresh, 1, fresh, 0, MOST - 1);
            done = MOST - 1;
        }
    }

    /** The SHELVES: what sort of thing each holds, and of that the length or the number. */
    private static final class Shelves {
        static final int BARE = -2, FRAME = -1, SHELVES = 6, LONGEST = 60;
        private static final int BYTES = 0, SHORTS = 1, INTS = 2, LONGS = 3;

        final long[][] rows = new long[SHELVES][LONGEST];
        final int[] held = new int[SHELVES];
        private final int[] sorts = new int[SHELVES];

        Shelves() {
            for (int shelf = 0; shelf < SHELVES; shelf++) {
                sorts[shelf] = BARE;
            }
        }

        boolean has(int shelf) {
            return shelf >= 0 && shelf < SHELVES;
        }

        boolean isBare(int shelf) {
            return has(shelf) && sorts[shelf] == BARE;
        }

        boolean isFrame(int shelf) {
            return has(shelf) && sorts[shelf] == FRAME;
        }

        boolean isBytes(int shelf) {
            return has(shelf) && sorts[shelf] == BYTES;
        }

        /** 0: it holds a ROW of bytes. */
        int refusesBytes(int shelf) {
            if (isBare(shelf)) {
                return NOTHING_THERE;
            }
            return isBytes(shelf) ? 0 : OTHER_KIND;
        }

        /** 0: it holds a ROW with such a place. */
        int refusesPlace(int shelf, int i) {
            if (!has(shelf)) {
                return BAD;
            }
            if (isBare(shelf)) {
                return NOTHING_THERE;
            }
            if (isFrame(shelf)) {
                return OTHER_KIND;
            }
            return i >= 0 && i < held[shelf] ? 0 : NO_PLACE;
        }

        int refusesShift(int shelf, int i, int other, int j, int n) {
            if (!has(shelf) || !has(other)) {
                return BAD;
            }
            if (isBare(shelf) || isBare(other)) {
                return NOTHING_THERE;
            }
            if (isFrame(shelf) || isFrame(other) || sorts[shelf] != sorts[other]) {
                return OTHER_KIND;
            }
            return isSpan(shelf, i, n) && isSpan(other, j, n) ? 0 : NO_PLACE;
        }

        private boolean isSpan(int shelf, int i, int n) {
            return i >= 0 && n >= 0 && n <= held[shelf] && i <= held[shelf] - n;
        }

        void hold(int shelf, int sort, int what) {
            if (!has(shelf)) {
                return;
            }
            sorts[shelf] = sort;
            held[shelf] = what;
            for (int i = 0; i < LONGEST; i++) {
                rows[shelf][i] = 0;
            }
        }

        long at(int shelf, int i) {
            return refusesPlace(shelf, i) == 0 ? rows[shelf][i] : 0;
        }

        void setAt(int shelf, int i, long v) {
            if (refusesPlace(shelf, i) == 0) {
                rows[shelf][i] = cut(sorts[shelf], v);
            }
        }

        private static long cut(int sort, long v) {
            switch (sort) {
                case BYTES: return (byte) v;
                case SHORTS: return (short) v;
                case INTS: return (int) v;
                case LONGS: return v;
                default: return v != 0 ? 1 : 0;
            }
        }
    }

    /** The BODIES, and what ran in the latest act(). */
    private static final class Bodies {
        private static final int MOST = 50, MOST_TRACED = 24, DEEPEST = 40, KINDS = 8, ACTS = 4;
        private static final int LIES = 0, FOLDS = 1, TURNS = 2, TELLS = 3;
        private static final int[] ABOVE = {-1, 0, 0, 2, 1, 3, 0, 4};
        // Which body each KIND has of its own, by ACTS; 0: none.
        private static final int[] OWN = {
            1, 10, 11, 2,
            20, 0, 0, 0,
            0, 30, 0, 0,
            0, 41, 40, 0,
            0, 0, 50, 0,
            0, 0, 0, 60,
            70, 0, 0, 0,
            0, 80, 0, 81
        };

        private final int[] kinds = new int[MOST];
        private final int[] traced = new int[MOST_TRACED];
        private int actor;
        int size;
        int ran;

        static boolean isKind(int kind) {
            return kind >= 0 && kind < KINDS;
        }

        static boolean isUnder(int kind, int above) {
            int at = kind;
            for (int k = 0; k < KINDS && isKind(at) && at != above; k++) {
                at = ABOVE[at];
            }
            return isKind(at) && at == above;
        }

        boolean has(int body) {
            return body >= 0 && body < size;
        }

        int kindOf(int body) {
            return has(body) ? kinds[body] : -1;
        }

        int join(int kind) {
            if (size >= MOST) {
                return FULL;
            }
            kinds[size] = kind;
            size++;
            return size - 1;
        }

        int tracedAt(int i) {
            return i >= 0 && i < ran && i < MOST_TRACED ? traced[i] : BAD;
        }

        int perform(int body, int act, int x) {
            ran = 0;
            if (!has(body) || act < 0 || act >= ACTS) {
                return 0;
            }
            actor = body;
            return run(kinds[body], act, x, 0);
        }

        /** The first body from a KIND upwards. */
        private int run(int from, int act, int x, int depth) {
            int kind = from;
            for (int k = 0; k < KINDS && isKind(kind) && OWN[kind * ACTS + act] == 0; k++) {
                kind = ABOVE[kind];
            }
            if (!isKind(kind) || depth >= DEEPEST) {
                return 0;
            }
            int number = OWN[kind * ACTS + act];
            if (ran < MOST_TRACED) {
                traced[ran] = number;
            }
            ran++;
            return runBody(number, ABOVE[kind], x, depth + 1);
        }

        private int runBody(int number, int above, int x, int depth) {
            int own = kindOf(actor);
            switch (number) {
                case 1: return x + actor;
                case 2: return run(own, FOLDS, x, depth) - run(own, TURNS, 1, depth);
                case 10: return run(own, LIES, x, depth) * 2;
                case 11: return x ^ actor;
                case 20: return run(above, LIES, x, depth) + 3;
                case 30: return -run(above, FOLDS, x, depth);
                case 40: return run(above, TURNS, x, depth) * 3;
                case 41: return run(above, FOLDS, x + 1, depth);
                case 50: return run(above, TURNS, x, depth) - run(own, LIES, 2, depth);
                case 60: return run(above, TELLS, x, depth) ^ 5;
                case 70: return run(above, LIES, x, depth) * 2;
                case 80: return run(above, FOLDS, x, depth) + run(own, TURNS, 2, depth);
                case 81: return run(above, TELLS, x, depth) - 1;
                default: return 0;
            }
        }
    }
}
