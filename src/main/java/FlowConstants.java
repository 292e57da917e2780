import java.util.Arrays;

/**
 * A propagator of constants over conditional edges. What each call promises
 * stands in ../shared/DOC.md; words in capitals here are the terms of it.
 */
public final class FlowConstants {
    public static final int BAD = -1, STATE = -2, FULL = -3, NONE = -9;
    public static final int NEVER = 0, ONE = 1, ANY = 2;

    private static final int FAULT_AT_0 = -10;
    private static final int NO_FAULT = -1;

    private static final int MOST_BYTES = 150;
    private static final int MOST_BLOCKS = 8;
    private static final int MOST_NAMES = 24;
    private static final int MOST_ARMS = 3;
    private static final int MOST_UNDONE = 10;
    private static final int MOST_STEPS = 60;
    private static final int MOST_NUMBER = 999;
    private static final int IMAGES = 2;

    /** An END goes to two BLOCKS at most: EDGE e is that of BLOCK e / 2. */
    private static final int WAYS = 2;

    /** Each round but the last lifts a NAME (twice at most), or opens an EDGE. */
    private static final int MOST_ROUNDS = 2 * MOST_NAMES + WAYS * MOST_BLOCKS + 1;

    private static final int NUMBER = 0, INPUT = 1, OPERATION = 2, JOIN = 3;
    private static final int OPEN = -1, GOES = 0, CHOOSES = 1, RETURNS = 2;

    private final Text text;
    private Shape shape;
    private Shape draft;
    private final Now now;
    private final Flow flow;
    private final Flow plain;
    private final Flow trial;
    private final Walk walk;
    private final History history;
    private final Now[] images;
    private final int[] kept;
    private int told;

    public FlowConstants() {
        text = new Text();
        shape = new Shape();
        draft = new Shape();
        now = new Now();
        flow = new Flow();
        plain = new Flow();
        trial = new Flow();
        walk = new Walk();
        history = new History();
        images = new Now[IMAGES];
        for (int i = 0; i < IMAGES; i++) {
            images[i] = new Now();
        }
        kept = new int[IMAGES];
        told = 0;
    }

    // ---- the program

    public int type(int c) {
        if (c < 0 || c > 255) {
            return BAD;
        }
        if (text.length >= MOST_BYTES) {
            return FULL;
        }
        text.bytes[text.length] = c;
        text.length++;
        return text.length;
    }

    public int clear() {
        int had = text.length;
        text.length = 0;
        return had;
    }

    public int program() {
        int fault = Reader.faultOf(text, draft);
        if (fault != NO_FAULT) {
            return FAULT_AT_0 - fault;
        }
        Shape old = shape;
        shape = draft;
        draft = old;
        text.length = 0;
        now.becomesAsTold(shape);
        history.size = 0;
        Arrays.fill(kept, 0);
        settle();
        return shape.names;
    }

    public int name(int n, int what) {
        if (!shape.hasName(n) || what < 0 || what > 7) {
            return BAD;
        }
        switch (what) {
            case 0: return shape.home[n];
            case 1: return shape.make[n];
            case 2: return shape.make[n] == OPERATION ? shape.sign[n] : shape.arms[n];
            case 3: return shape.left[n];
            case 4: return shape.right[n];
            case 5: return now.known[n];
            case 6: return flow.state[n];
            default: return plain.state[n];
        }
    }

    public int found(int n) {
        if (!shape.hasName(n)) {
            return BAD;
        }
        if (flow.state[n] != ONE) {
            return STATE;
        }
        told = flow.value[n];
        return 1;
    }

    public int block(int b, int what) {
        if (!shape.hasBlock(b) || what < 0 || what > 8) {
            return BAD;
        }
        switch (what) {
            case 0: return flow.live[b];
            case 1: return shape.size[b];
            case 2: return shape.end[b];
            case 3: return shape.endName[b];
            case 4: return now.way[WAYS * b];
            case 5: return now.way[WAYS * b + 1];
            case 6: return flow.open[WAYS * b];
            case 7: return flow.open[WAYS * b + 1];
            default: return shape.dominators[b];
        }
    }

    // ---- what is done

    public int knows(int n, int v) {
        if (!shape.isMade(n, INPUT)) {
            return BAD;
        }
        history.note(History.KNOWING, n, now);
        now.known[n] = 1;
        now.knownAs[n] = v;
        settle();
        return flow.namesThatAre(ONE, shape);
    }

    public int forgets(int n) {
        if (!shape.isMade(n, INPUT)) {
            return BAD;
        }
        if (now.known[n] == 0) {
            return STATE;
        }
        history.note(History.KNOWING, n, now);
        now.known[n] = 0;
        settle();
        return flow.namesThatAre(ONE, shape);
    }

    public int gives(int n, int v) {
        if (!shape.isMade(n, INPUT)) {
            return BAD;
        }
        history.note(History.GIVING, n, now);
        told = now.given[n];
        now.given[n] = v;
        settle();
        return 1;
    }

    public int patches(int n, int v) {
        if (!shape.isMade(n, NUMBER) || v < 0 || v > MOST_NUMBER) {
            return BAD;
        }
        int was = now.number[n];
        if (was == v) {
            return STATE;
        }
        history.note(History.PATCHING, n, now);
        now.number[n] = v;
        settle();
        return was;
    }

    public int turned(int b) {
        if (!shape.hasBlock(b)) {
            return BAD;
        }
        if (shape.end[b] != CHOOSES) {
            return STATE;
        }
        history.note(History.TURNING, b, now);
        now.turn(b);
        settle();
        return flow.liveBlocks(shape);
    }

    public int undo() {
        if (history.size == 0) {
            return STATE;
        }
        history.takeBack(now);
        settle();
        return history.size;
    }

    // ---- runs, folds

    public int run() {
        if (shape.blocks == 0) {
            return STATE;
        }
        told = walk.answer;
        return walk.outcome;
    }

    public int visits(int b) {
        return shape.hasBlock(b) ? walk.times[b] : BAD;
    }

    public int last(int n) {
        if (!shape.hasName(n)) {
            return BAD;
        }
        told = walk.value[n];
        return 1;
    }

    public int count(int what) {
        switch (what) {
            case 0: return shape.names;
            case 1: return shape.blocks;
            case 2: return shape.edges();
            case 3: return flow.liveBlocks(shape);
            case 4: return flow.liveEdges();
            case 5: return flow.namesThatAre(ONE, shape);
            case 6: return flow.namesThatAre(NEVER, shape);
            case 7: return flow.foldedNames(shape);
            case 8: return flow.foldedEnds(shape);
            case 9: return flow.stayingNames(shape);
            case 10: return flow.gainOver(plain, shape);
            case 11: return history.size;
            case 12: return text.length;
            default: return BAD;
        }
    }

    public int best(int what) {
        if (what < 0 || what > 1) {
            return BAD;
        }
        int bestName = NONE;
        int most = NONE;
        int before = flow.namesThatAre(ANY, shape);
        for (int n = 0; n < shape.names; n++) {
            if (shape.make[n] != INPUT || now.known[n] == 1) {
                continue;
            }
            trial.climb(shape, now, false, n);
            int more = before - trial.namesThatAre(ANY, shape);
            if (bestName == NONE || more > most) {
                bestName = n;
                most = more;
            }
        }
        return what == 0 ? bestName : most;
    }

    // ---- images

    public int keep(int image) {
        if (image < 0 || image >= IMAGES) {
            return BAD;
        }
        images[image].copy(now);
        kept[image] = 1;
        return shape.names;
    }

    public int back(int image) {
        if (image < 0 || image >= IMAGES) {
            return BAD;
        }
        if (kept[image] == 0) {
            return STATE;
        }
        now.copy(images[image]);
        history.size = 0;
        settle();
        return shape.names;
    }

    public int asked() {
        return told;
    }

    /** All that follows from the program as it is now; calls that only ask read it. */
    private void settle() {
        flow.climb(shape, now, false, NONE);
        plain.climb(shape, now, true, NONE);
        walk.start(shape, now);
    }

    /** THE TEXT, and the TOKEN of it that is to be read next. */
    private static final class Text {
        static final int ENDED = 0, LETTERS = 1, NUMERAL = 2, SIGN = 3, STOP = 4, WRONG = 5;

        /** Above all that a TOKEN may mean. */
        static final int UNBOUND = MOST_NUMBER + 1;

        final int[] bytes = new int[MOST_BYTES];
        int length = 0;
        int kind = ENDED;
        int place = 0;
        int behind = 0;

        /** The letter (0: more than one of them), the number or the sign of the TOKEN. */
        int meaning = 0;

        /** The TOKEN can't stand there: it stays, and its place is the FAULT. */
        boolean stuck = false;

        void rewind() {
            stuck = false;
            behind = 0;
            step();
        }

        void step() {
            while (behind < length && bytes[behind] == ' ') {
                behind++;
            }
            place = behind;
            meaning = 0;
            if (place >= length) {
                kind = ENDED;
                return;
            }
            behind++;
            int first = bytes[place];
            if (first >= 'a' && first <= 'z') {
                readLetters(first);
            } else if (first >= '0' && first <= '9') {
                readNumeral(first - '0');
            } else if (Sums.isSign(first)) {
                kind = SIGN;
                meaning = first;
            } else {
                kind = first == ';' ? STOP : WRONG;
            }
        }

        void readLetters(int first) {
            kind = LETTERS;
            meaning = first;
            while (behind < length && bytes[behind] >= 'a' && bytes[behind] <= 'z') {
                meaning = 0;
                behind++;
            }
        }

        void readNumeral(int first) {
            kind = NUMERAL;
            meaning = first;
            while (behind < length && bytes[behind] >= '0' && bytes[behind] <= '9') {
                // Only a 0 at the front leaves 0 here; WRONG is not taken back.
                if (meaning == 0) {
                    kind = WRONG;
                }
                if (meaning <= MOST_NUMBER) {
                    meaning = 10 * meaning + bytes[behind] - '0';
                }
                behind++;
            }
            if (meaning > MOST_NUMBER) {
                kind = WRONG;
            }
        }

        boolean hasMore() {
            return !stuck && kind != ENDED;
        }

        /** What the TOKEN means, if it is of that kind and below the bound; else the text is stuck. */
        int take(int wanted, int bound) {
            if (stuck || kind != wanted || meaning >= bound) {
                stuck = true;
                return 0;
            }
            int taken = meaning;
            step();
            return taken;
        }
    }

    /** Reads THE TEXT into a Shape, which is worth nothing if the text is stuck then. */
    private static final class Reader {
        static int faultOf(Text text, Shape draft) {
            draft.empty();
            text.rewind();
            for (int items = 0; items < MOST_BYTES && text.hasMore(); items++) {
                readItem(text, draft);
            }
            boolean right = !text.stuck && draft.isWhole() && draft.isStrict();
            return right ? NO_FAULT : text.place;
        }

        static void readItem(Text text, Shape draft) {
            int letter = text.kind == Text.LETTERS ? text.meaning : 0;
            if (!draft.admits(letter)) {
                text.stuck = true;
                return;
            }
            text.step();
            switch (letter) {
                case 'b': draft.beginBlock(); break;
                case 'i': draft.addName(INPUT); break;
                case 'k': readNumber(text, draft); break;
                case 'o': readOperation(text, draft); break;
                case 'j': readArms(text, draft); break;
                case 'g': readGoing(text, draft); break;
                case 'q': readChoice(text, draft); break;
                default: readReturn(text, draft); break;
            }
            text.take(Text.STOP, Text.UNBOUND);
        }

        static void readNumber(Text text, Shape draft) {
            int n = draft.addName(NUMBER);
            draft.number[n] = text.take(Text.NUMERAL, Text.UNBOUND);
        }

        static void readOperation(Text text, Shape draft) {
            int n = draft.addName(OPERATION);
            draft.left[n] = text.take(Text.NUMERAL, MOST_NAMES);
            draft.sign[n] = text.take(Text.SIGN, Text.UNBOUND);
            draft.right[n] = text.take(Text.NUMERAL, MOST_NAMES);
        }

        static void readArms(Text text, Shape draft) {
            int n = draft.addName(JOIN);
            for (int arm = 0; arm < MOST_ARMS && (arm == 0 || text.kind != Text.STOP); arm++) {
                if (text.kind == Text.NUMERAL && draft.hasArm(n, text.meaning)) {
                    text.stuck = true;
                }
                int from = text.take(Text.NUMERAL, MOST_BLOCKS);
                int what = text.take(Text.NUMERAL, MOST_NAMES);
                draft.addArm(n, from, what);
            }
        }

        static void readGoing(Text text, Shape draft) {
            int b = draft.endBlock(GOES);
            draft.way[WAYS * b] = text.take(Text.NUMERAL, MOST_BLOCKS);
        }

        static void readChoice(Text text, Shape draft) {
            int b = draft.endBlock(CHOOSES);
            draft.endName[b] = text.take(Text.NUMERAL, MOST_NAMES);
            int first = text.take(Text.NUMERAL, MOST_BLOCKS);
            if (text.kind == Text.NUMERAL && text.meaning == first) {
                text.stuck = true;
            }
            draft.way[WAYS * b] = first;
            draft.way[WAYS * b + 1] = text.take(Text.NUMERAL, MOST_BLOCKS);
        }

        static void readReturn(Text text, Shape draft) {
            int b = draft.endBlock(RETURNS);
            draft.endName[b] = text.take(Text.NUMERAL, MOST_NAMES);
        }
    }

    /** A program as THE TEXT tells it. Once it is STRICT, all it tells of is there. */
    private static final class Shape {
        int blocks = 0;
        int names = 0;
        final int[] home = new int[MOST_NAMES];
        final int[] make = new int[MOST_NAMES];
        final int[] number = new int[MOST_NAMES];
        final int[] sign = new int[MOST_NAMES];
        final int[] left = new int[MOST_NAMES];
        final int[] right = new int[MOST_NAMES];
        final int[] arms = new int[MOST_NAMES];
        final int[] armBlock = new int[MOST_ARMS * MOST_NAMES];
        final int[] armName = new int[MOST_ARMS * MOST_NAMES];
        final int[] start = new int[MOST_BLOCKS];
        final int[] size = new int[MOST_BLOCKS];
        final int[] end = new int[MOST_BLOCKS];
        final int[] endName = new int[MOST_BLOCKS];
        final int[] way = new int[WAYS * MOST_BLOCKS];
        final int[] dominators = new int[MOST_BLOCKS];

        boolean hasName(int n) {
            return n >= 0 && n < names;
        }

        boolean hasBlock(int b) {
            return b >= 0 && b < blocks;
        }

        boolean isMade(int n, int how) {
            return hasName(n) && make[n] == how;
        }

        int edges() {
            int all = 0;
            for (int e = 0; e < WAYS * blocks; e++) {
                all += way[e] == NONE ? 0 : 1;
            }
            return all;
        }

        void empty() {
            blocks = 0;
            names = 0;
        }

        /** Whether an ITEM with this letter can stand behind what was told. */
        boolean admits(int letter) {
            boolean inside = blocks > 0 && end[blocks - 1] == OPEN;
            switch (letter) {
                case 'b': return !inside && blocks < MOST_BLOCKS;
                case 'k':
                case 'i':
                case 'o': return inside && names < MOST_NAMES;
                case 'j': return inside && names < MOST_NAMES && admitsJoin();
                case 'g':
                case 'q':
                case 'z': return inside;
                default: return false;
            }
        }

        boolean admitsJoin() {
            return blocks > 1 && (size[blocks - 1] == 0 || isMade(names - 1, JOIN));
        }

        void beginBlock() {
            int b = blocks;
            start[b] = names;
            size[b] = 0;
            end[b] = OPEN;
            endName[b] = NONE;
            way[WAYS * b] = NONE;
            way[WAYS * b + 1] = NONE;
            blocks++;
        }

        int addName(int how) {
            int n = names;
            home[n] = blocks - 1;
            make[n] = how;
            number[n] = 0;
            sign[n] = 0;
            left[n] = NONE;
            right[n] = NONE;
            arms[n] = 0;
            names++;
            size[blocks - 1]++;
            return n;
        }

        void addArm(int n, int from, int what) {
            int arm = MOST_ARMS * n + arms[n];
            armBlock[arm] = from;
            armName[arm] = what;
            arms[n]++;
        }

        int endBlock(int how) {
            end[blocks - 1] = how;
            return blocks - 1;
        }

        /** The place of the arm of a JOIN for a BLOCK, or NONE. */
        int armFrom(int n, int from) {
            for (int arm = MOST_ARMS * n; arm < MOST_ARMS * n + arms[n]; arm++) {
                if (armBlock[arm] == from) {
                    return arm;
                }
            }
            return NONE;
        }

        boolean hasArm(int n, int from) {
            return armFrom(n, from) != NONE;
        }

        boolean isWhole() {
            return blocks > 0 && end[blocks - 1] != OPEN;
        }

        boolean isStrict() {
            if (!endsTellOfWhatIsThere() || !namesTellOfWhatIsThere()) {
                return false;
            }
            findDominators();
            for (int b = 0; b < blocks; b++) {
                if (endName[b] != NONE && !dominates(home[endName[b]], b)) {
                    return false;
                }
            }
            for (int n = 0; n < names; n++) {
                if (make[n] == OPERATION && !(isAhead(left[n], n) && isAhead(right[n], n))) {
                    return false;
                }
                if (make[n] == JOIN && !armsFit(n)) {
                    return false;
                }
            }
            return true;
        }

        boolean endsTellOfWhatIsThere() {
            for (int b = 0; b < blocks; b++) {
                if (endName[b] != NONE && !hasName(endName[b])) {
                    return false;
                }
            }
            for (int e = 0; e < WAYS * blocks; e++) {
                if (way[e] != NONE && (way[e] == 0 || !hasBlock(way[e]))) {
                    return false;
                }
            }
            return true;
        }

        boolean namesTellOfWhatIsThere() {
            for (int n = 0; n < names; n++) {
                if (make[n] == OPERATION && !(hasName(left[n]) && hasName(right[n]))) {
                    return false;
                }
                for (int arm = MOST_ARMS * n; arm < MOST_ARMS * n + arms[n]; arm++) {
                    if (!hasBlock(armBlock[arm]) || !hasName(armName[arm])) {
                        return false;
                    }
                }
            }
            return true;
        }

        void findDominators() {
            for (int b = 0; b < blocks; b++) {
                dominators[b] = 0;
            }
            for (int d = 0; d < blocks; d++) {
                int reached = reachedWithout(d);
                for (int b = 0; b < blocks; b++) {
                    if (!isIn(reached, b)) {
                        dominators[b] |= 1 << d;
                    }
                }
            }
        }

        /** The BLOCKS (bits) to which ways from BLOCK 0 go that leave one out. */
        int reachedWithout(int avoided) {
            int allowed = ~(1 << avoided);
            int reached = 1 & allowed;
            for (int round = 0; round < blocks; round++) {
                for (int e = 0; e < WAYS * blocks; e++) {
                    if (way[e] != NONE && isIn(reached, e / WAYS)) {
                        reached |= (1 << way[e]) & allowed;
                    }
                }
            }
            return reached;
        }

        boolean dominates(int d, int b) {
            return isIn(dominators[b], d);
        }

        static boolean isIn(int bits, int b) {
            return ((bits >> b) & 1) == 1;
        }

        boolean isAhead(int part, int n) {
            return home[part] == home[n] ? part < n : dominates(home[part], home[n]);
        }

        boolean armsFit(int n) {
            int from = 0;
            for (int arm = MOST_ARMS * n; arm < MOST_ARMS * n + arms[n]; arm++) {
                if (!dominates(home[armName[arm]], armBlock[arm])) {
                    return false;
                }
                from |= 1 << armBlock[arm];
            }
            return from == comingTo(home[n]);
        }

        /** The BLOCKS (bits) from which an EDGE goes to one. */
        int comingTo(int b) {
            int from = 0;
            for (int e = 0; e < WAYS * blocks; e++) {
                if (way[e] == b) {
                    from |= 1 << (e / WAYS);
                }
            }
            return from;
        }
    }

    /** What may be changed, and what an IMAGE keeps: KNOWN, GIVEN, NUMBERS, ENDS. */
    private static final class Now {
        final int[] known = new int[MOST_NAMES];
        final int[] knownAs = new int[MOST_NAMES];
        final int[] given = new int[MOST_NAMES];
        final int[] number = new int[MOST_NAMES];
        final int[] way = new int[WAYS * MOST_BLOCKS];

        void becomesAsTold(Shape shape) {
            Arrays.fill(known, 0);
            Arrays.fill(knownAs, 0);
            Arrays.fill(given, 0);
            System.arraycopy(shape.number, 0, number, 0, MOST_NAMES);
            System.arraycopy(shape.way, 0, way, 0, WAYS * MOST_BLOCKS);
        }

        void copy(Now other) {
            System.arraycopy(other.known, 0, known, 0, MOST_NAMES);
            System.arraycopy(other.knownAs, 0, knownAs, 0, MOST_NAMES);
            System.arraycopy(other.given, 0, given, 0, MOST_NAMES);
            System.arraycopy(other.number, 0, number, 0, MOST_NAMES);
            System.arraycopy(other.way, 0, way, 0, WAYS * MOST_BLOCKS);
        }

        void turn(int b) {
            int first = way[WAYS * b];
            way[WAYS * b] = way[WAYS * b + 1];
            way[WAYS * b + 1] = first;
        }

        int inputOf(int n) {
            return known[n] == 1 ? knownAs[n] : given[n];
        }
    }

    /** What can be UNDONE, the latest last: how each thing was ahead of it. */
    private static final class History {
        static final int KNOWING = 0, GIVING = 1, PATCHING = 2, TURNING = 3;

        int size = 0;
        final int[] deed = new int[MOST_UNDONE];
        final int[] place = new int[MOST_UNDONE];
        final int[] wasKnown = new int[MOST_UNDONE];
        final int[] was = new int[MOST_UNDONE];

        void note(int what, int where, Now now) {
            if (size >= MOST_UNDONE) {
                dropOldest();
            }
            deed[size] = what;
            place[size] = where;
            wasKnown[size] = now.known[where];
            switch (what) {
                case KNOWING: was[size] = now.knownAs[where]; break;
                case GIVING: was[size] = now.given[where]; break;
                case PATCHING: was[size] = now.number[where]; break;
                default: was[size] = 0; break;
            }
            size++;
        }

        void dropOldest() {
            for (int i = 1; i < MOST_UNDONE; i++) {
                deed[i - 1] = deed[i];
                place[i - 1] = place[i];
                wasKnown[i - 1] = wasKnown[i];
                was[i - 1] = was[i];
            }
            size = MOST_UNDONE - 1;
        }

        void takeBack(Now now) {
            if (size <= 0) {
                return;
            }
            size--;
            int where = place[size];
            switch (deed[size]) {
                case KNOWING:
                    now.known[where] = wasKnown[size];
                    now.knownAs[where] = was[size];
                    break;
                case GIVING: now.given[where] = was[size]; break;
                case PATCHING: now.number[where] = was[size]; break;
                default: now.turn(where); break;
            }
        }
    }

    /** Values of NAMES and what can be reached, climbed together: FOUND, or PLAIN. */
    private static final class Flow {
        final int[] state = new int[MOST_NAMES];
        final int[] value = new int[MOST_NAMES];
        final int[] live = new int[MOST_BLOCKS];
        final int[] open = new int[WAYS * MOST_BLOCKS];

        /** An INPUT that is assumed (NONE: none is) counts as KNOWN as it is GIVEN. */
        void climb(Shape shape, Now now, boolean allWays, int assumed) {
            Arrays.fill(state, NEVER);
            Arrays.fill(value, 0);
            Arrays.fill(live, 0);
            Arrays.fill(open, 0);
            live[0] = shape.blocks > 0 ? 1 : 0;
            boolean changed = true;
            for (int round = 0; round < MOST_ROUNDS && changed; round++) {
                changed = false;
                for (int b = 0; b < shape.blocks; b++) {
                    if (live[b] == 1) {
                        changed |= liftNames(shape, now, b, assumed);
                        changed |= openEdges(shape, now, b, allWays);
                    }
                }
            }
        }

        boolean liftNames(Shape shape, Now now, int b, int assumed) {
            boolean changed = false;
            for (int n = shape.start[b]; n < shape.start[b] + shape.size[b]; n++) {
                switch (shape.make[n]) {
                    case NUMBER:
                        changed |= lift(n, ONE, now.number[n]);
                        break;
                    case INPUT:
                        changed |= lift(n, now.known[n] == 1 || n == assumed ? ONE : ANY, now.inputOf(n));
                        break;
                    case OPERATION:
                        changed |= liftOperation(shape, n);
                        break;
                    default:
                        changed |= liftJoin(shape, now, n);
                        break;
                }
            }
            return changed;
        }

        boolean liftOperation(Shape shape, int n) {
            int x = shape.left[n];
            int y = shape.right[n];
            if (state[x] == NEVER || state[y] == NEVER) {
                return false;
            }
            if (state[x] == ANY || state[y] == ANY || Sums.traps(shape.sign[n], value[y])) {
                return lift(n, ANY, 0);
            }
            return lift(n, ONE, Sums.result(shape.sign[n], value[x], value[y]));
        }

        boolean liftJoin(Shape shape, Now now, int n) {
            boolean changed = false;
            for (int arm = MOST_ARMS * n; arm < MOST_ARMS * n + shape.arms[n]; arm++) {
                int what = shape.armName[arm];
                if (isOpen(now, shape.armBlock[arm], shape.home[n])) {
                    changed |= lift(n, state[what], value[what]);
                }
            }
            return changed;
        }

        /** Lifts a NAME just so far that it is above this too; whether it changed. */
        boolean lift(int n, int atLeast, int number) {
            boolean differs = state[n] == ONE && atLeast == ONE && value[n] != number;
            if (atLeast <= state[n] && !differs) {
                return false;
            }
            state[n] = differs ? ANY : atLeast;
            value[n] = number;
            return true;
        }

        boolean openEdges(Shape shape, Now now, int b, boolean allWays) {
            boolean changed = false;
            for (int side = 0; side < WAYS; side++) {
                int e = WAYS * b + side;
                if (now.way[e] == NONE || open[e] == 1 || !(allWays || goes(shape, b, side))) {
                    continue;
                }
                open[e] = 1;
                live[now.way[e]] = 1;
                changed = true;
            }
            return changed;
        }

        boolean goes(Shape shape, int b, int side) {
            if (shape.end[b] != CHOOSES) {
                return true;
            }
            int n = shape.endName[b];
            return state[n] == ANY || state[n] == ONE && Sums.side(value[n]) == side;
        }

        boolean isOpen(Now now, int from, int to) {
            for (int e = WAYS * from; e < WAYS * from + WAYS; e++) {
                if (open[e] == 1 && now.way[e] == to) {
                    return true;
                }
            }
            return false;
        }

        int namesThatAre(int what, Shape shape) {
            int all = 0;
            for (int n = 0; n < shape.names; n++) {
                all += state[n] == what ? 1 : 0;
            }
            return all;
        }

        int liveBlocks(Shape shape) {
            int all = 0;
            for (int b = 0; b < shape.blocks; b++) {
                all += live[b];
            }
            return all;
        }

        int liveEdges() {
            int all = 0;
            for (int e = 0; e < WAYS * MOST_BLOCKS; e++) {
                all += open[e];
            }
            return all;
        }

        int foldedNames(Shape shape) {
            int all = 0;
            for (int n = 0; n < shape.names; n++) {
                all += state[n] == ONE && shape.make[n] != NUMBER ? 1 : 0;
            }
            return all;
        }

        int foldedEnds(Shape shape) {
            int all = 0;
            for (int b = 0; b < shape.blocks; b++) {
                boolean oneWay = open[WAYS * b] != open[WAYS * b + 1];
                all += live[b] == 1 && shape.end[b] == CHOOSES && oneWay ? 1 : 0;
            }
            return all;
        }

        int stayingNames(Shape shape) {
            int all = 0;
            for (int n = 0; n < shape.names; n++) {
                boolean stays = live[shape.home[n]] == 1 && state[n] != ONE && shape.make[n] != NUMBER;
                all += stays ? 1 : 0;
            }
            return all;
        }

        int gainOver(Flow other, Shape shape) {
            int all = 0;
            for (int n = 0; n < shape.names; n++) {
                all += state[n] != ANY && other.state[n] == ANY ? 1 : 0;
            }
            return all;
        }
    }

    /** A RUN, and how it went. */
    private static final class Walk {
        static final int RETURNED = 0, TRAPPED = 1, ENDLESS = 2;

        int outcome = ENDLESS;
        int answer = 0;
        final int[] value = new int[MOST_NAMES];
        final int[] brought = new int[MOST_NAMES];
        final int[] times = new int[MOST_BLOCKS];

        void start(Shape shape, Now now) {
            outcome = ENDLESS;
            answer = 0;
            Arrays.fill(value, 0);
            Arrays.fill(times, 0);
            int from = NONE;
            int b = 0;
            for (int step = 0; step < MOST_STEPS && shape.hasBlock(b); step++) {
                times[b]++;
                takeJoins(shape, b, from);
                int trap = makeNames(shape, now, b);
                if (trap != NONE) {
                    outcome = TRAPPED;
                    answer = trap;
                    return;
                }
                if (shape.end[b] == RETURNS) {
                    outcome = RETURNED;
                    answer = value[shape.endName[b]];
                    return;
                }
                from = b;
                b = next(shape, now, b);
            }
        }

        /** All are looked up before one is put: an arm may be a JOIN of the same BLOCK. */
        void takeJoins(Shape shape, int b, int from) {
            int stop = shape.start[b] + shape.size[b];
            for (int n = shape.start[b]; n < stop; n++) {
                int arm = shape.armFrom(n, from);
                brought[n] = arm == NONE ? 0 : value[shape.armName[arm]];
            }
            for (int n = shape.start[b]; n < stop; n++) {
                if (shape.make[n] == JOIN) {
                    value[n] = brought[n];
                }
            }
        }

        /** The NAME at which it TRAPS, or NONE. */
        int makeNames(Shape shape, Now now, int b) {
            for (int n = shape.start[b]; n < shape.start[b] + shape.size[b]; n++) {
                if (shape.make[n] == NUMBER) {
                    value[n] = now.number[n];
                } else if (shape.make[n] == INPUT) {
                    value[n] = now.inputOf(n);
                } else if (shape.make[n] == OPERATION) {
                    int x = value[shape.left[n]];
                    int y = value[shape.right[n]];
                    if (Sums.traps(shape.sign[n], y)) {
                        return n;
                    }
                    value[n] = Sums.result(shape.sign[n], x, y);
                }
            }
            return NONE;
        }

        int next(Shape shape, Now now, int b) {
            int side = shape.end[b] == CHOOSES ? Sums.side(value[shape.endName[b]]) : 0;
            return now.way[WAYS * b + side];
        }
    }

    /** What the signs do, and which way a number goes. */
    private static final class Sums {
        static boolean isSign(int c) {
            switch (c) {
                case '+':
                case '-':
                case '*':
                case '/':
                case '%':
                case '&':
                case '^':
                case '<':
                case '=': return true;
                default: return false;
            }
        }

        static boolean traps(int sign, int y) {
            return y == 0 && (sign == '/' || sign == '%');
        }

        static int result(int sign, int x, int y) {
            switch (sign) {
                case '+': return x + y;
                case '-': return x - y;
                case '*': return x * y;
                case '/': return y == 0 ? 0 : x / y;
                case '%': return y == 0 ? 0 : x % y;
                case '&': return x & y;
                case '^': return x ^ y;
                case '<': return x < y ? 1 : 0;
                default: return x == y ? 1 : 0;
            }
        }

        static int side(int number) {
            return number != 0 ? 0 : 1;
        }
    }
}
