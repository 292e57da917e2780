/** Promises 1 to 21: for each call its numbers just inside, at and just beyond what they may be. */
public final class CallEdgesTest {
    private static final int BAD = -1, STATE = -2, FULL = -3, NONE = -9;
    private static final int NEVER = 0, ONE = 1, ANY = 2;
    private static final int LOW = Integer.MIN_VALUE, HIGH = Integer.MAX_VALUE;

    /** An INPUT (1) chooses between 1 and 2, which are joined (4), 5 more is returned (5). */
    private static final String DIAMOND = "b;k5;i;q1 1 2;b;k1;g3;b;k2;g3;b;j1 2 2 3;o4+0;z5;";

    /** 24 NAMES, 8 BLOCKS: NAME 22 is a NUMBER, the last an INPUT by which the last BLOCK goes on. */
    private static final String LARGEST = "b;" + "i;".repeat(22) + "k5;g7;" + "b;z0;".repeat(6) + "b;i;q23 1 2;";

    /** 2 BLOCKS, no NAMES: it never ends. */
    private static final String NAMELESS = "b;g1;b;g1;";

    private CallEdgesTest() {
    }

    public static void main(String[] args) {
        newObject();
        type();
        clear();
        program();
        nameNumbers();
        nameAnswers();
        found();
        blockNumbers();
        blockAnswers();
        knows();
        forgets();
        gives();
        patches();
        turned();
        undo();
        run();
        visits();
        last();
        count();
        countOfLargest();
        best();
        keep();
        back();
        asked();
        Check.end("CallEdgesTest");
    }

    private static FlowConstants diamond() {
        return Check.read(DIAMOND, 6);
    }

    private static FlowConstants largest() {
        return Check.read(LARGEST, 24);
    }

    private static FlowConstants nameless() {
        return Check.read(NAMELESS, 0);
    }

    private static void newObject() {
        Check.says("FlowConstants(): No BLOCKS");
        FlowConstants x = new FlowConstants();
        for (int what = 0; what <= 12; what++) {
            Check.due("count(" + what + ")", x.count(what), 0);
        }
        for (int i = -1; i <= 24; i++) {
            Check.due("block(" + i + ", 0)", x.block(i, 0), BAD);
            Check.due("name(" + i + ", 0)", x.name(i, 0), BAD);
            Check.due("visits(" + i + ")", x.visits(i), BAD);
            Check.due("last(" + i + ")", x.last(i), BAD);
            Check.due("found(" + i + ")", x.found(i), BAD);
            Check.due("turned(" + i + ")", x.turned(i), BAD);
            Check.due("knows(" + i + ", 1)", x.knows(i, 1), BAD);
            Check.due("forgets(" + i + ")", x.forgets(i), BAD);
            Check.due("gives(" + i + ", 1)", x.gives(i, 1), BAD);
            Check.due("patches(" + i + ", 1)", x.patches(i, 1), BAD);
        }
        Check.due("program()", x.program(), -10);
        Check.due("run()", x.run(), STATE);
        Check.due("undo()", x.undo(), STATE);
        Check.due("asked()", x.asked(), 0);
        FlowConstants other = diamond();
        Check.due("of one object alone", x.count(1), 0);
        Check.due("of the other one", other.count(1), 4);
    }

    private static void type() {
        Check.says("A byte (0 .. 255) comes to THE TEXT: how many it has. BAD; FULL");
        FlowConstants x = new FlowConstants();
        Check.due("type(-1)", x.type(-1), BAD);
        Check.due("type(0)", x.type(0), 1);
        Check.due("type(1)", x.type(1), 2);
        Check.due("type(254)", x.type(254), 3);
        Check.due("type(255)", x.type(255), 4);
        Check.due("type(256)", x.type(256), BAD);
        Check.due("type(256 + 32)", x.type(288), BAD);
        Check.due("type(LOW)", x.type(LOW), BAD);
        Check.due("type(HIGH)", x.type(HIGH), BAD);
        for (int bytes = 5; bytes <= 150; bytes++) {
            Check.due("type(32)", x.type(32), bytes);
        }
        for (int times = 0; times < 3; times++) {
            Check.due("type(32) of the full text", x.type(32), FULL);
        }
        Check.due("type(256) of the full text", x.type(256), BAD);
        Check.due("type(-1) of the full text", x.type(-1), BAD);
        Check.due("count(12)", x.count(12), 150);
        x.clear();
        Check.due("type(32) behind clear()", x.type(32), 1);
    }

    private static void clear() {
        Check.says("THE TEXT is empty: how many bytes it had");
        FlowConstants x = new FlowConstants();
        Check.due("clear() of none", x.clear(), 0);
        for (int bytes : new int[] {1, 2, 149, 150}) {
            Check.type(x, " ".repeat(bytes));
            Check.due("clear()", x.clear(), bytes);
            Check.due("count(12)", x.count(12), 0);
        }
        Check.type(x, "!!!");
        x.clear();
        Check.type(x, "b;i;z0;");
        Check.due("nothing is left of the old one", x.program(), 1);
        Check.due("clear() behind program()", x.clear(), 0);
        Check.due("the program stays", x.count(0), 1);
    }

    private static void program() {
        Check.says("THE TEXT tells all, and is empty then: how many NAMES. -10 less FAULT: nothing changes");
        Check.due("count(12)", nameless().count(12), 0);
        Check.due("count(12)", largest().count(12), 0);
        FlowConstants x = diamond();
        Check.due("program() of no text", x.program(), -10);
        Check.type(x, "b;i;z0;!");
        Check.due("program() with a fault", x.program(), -17);
        Check.due("program() again", x.program(), -17);
        Check.due("the text stays", x.count(12), 8);
        Check.due("the program stays", x.count(0), 6);
        Check.due("its end, too", x.block(0, 2), 1);
        x.clear();
        Check.type(x, "b;i;z0;");
        Check.due("program()", x.program(), 1);
        Check.due("that one is there", x.count(0), 1);
        Check.fault("!", 0);
        Check.fault(" ".repeat(149) + "!", 149);
        Check.fault(" ".repeat(150), 150);
    }

    private static void nameNumbers() {
        Check.says("name: Of a NAME: 0 .. 7. BAD");
        FlowConstants x = largest();
        for (int n : new int[] {LOW, -2, -1, 24, 25, HIGH}) {
            for (int what = -1; what <= 8; what++) {
                Check.due("name(" + n + ", " + what + ")", x.name(n, what), BAD);
            }
        }
        for (int what : new int[] {LOW, -2, -1, 8, 9, HIGH}) {
            Check.due("name(0, " + what + ")", x.name(0, what), BAD);
            Check.due("name(23, " + what + ")", x.name(23, what), BAD);
        }
        Check.due("name(0, 0)", x.name(0, 0), 0);
        Check.due("name(0, 7)", x.name(0, 7), ANY);
        Check.due("name(23, 0)", x.name(23, 0), 7);
        Check.due("name(23, 7)", x.name(23, 7), ANY);
        x = diamond();
        Check.due("name(5, 0)", x.name(5, 0), 3);
        Check.due("name(6, 0)", x.name(6, 0), BAD);
        Check.due("name(0, 0) of none", nameless().name(0, 0), BAD);
    }

    private static void nameAnswers() {
        Check.says("name: 0 its BLOCK .. 2 the sign of an OPERATION (its byte), how many arms (0), 3 its first, "
            + "4 its second NAME (of an OPERATION; NONE) .. 7 how if PLAIN");
        FlowConstants x = Check.read("b;k9;i;q1 1 2;b;o0-1;g2;b;j1 2 0 1;z3;", 4);
        nameRow(x, 0, 0, 0, 0, NONE, NONE, 0, ONE, ONE);
        nameRow(x, 1, 0, 1, 0, NONE, NONE, 0, ANY, ANY);
        nameRow(x, 2, 1, 2, '-', 0, 1, 0, ANY, ANY);
        nameRow(x, 3, 2, 3, 2, NONE, NONE, 0, ANY, ANY);
        x.knows(1, 0);
        nameRow(x, 1, 0, 1, 0, NONE, NONE, 1, ONE, ONE);
        nameRow(x, 2, 1, 2, '-', 0, 1, 0, NEVER, ONE);
        nameRow(x, 3, 2, 3, 2, NONE, NONE, 0, ONE, ANY);
        x = largest();
        x.knows(23, 0);
        nameRow(x, 23, 7, 1, 0, NONE, NONE, 1, ONE, ONE);
        nameRow(x, 22, 0, 0, 0, NONE, NONE, 0, ONE, ONE);
    }

    private static void nameRow(FlowConstants x, int n, int... due) {
        for (int what = 0; what < due.length; what++) {
            Check.due("name(" + n + ", " + what + ")", x.name(n, what), due[what]);
        }
    }

    private static void found() {
        Check.says("The number that a NAME is FOUND to be, told by asked(): 1. BAD; STATE: it is not ONE");
        FlowConstants x = largest();
        for (int n : new int[] {LOW, -1, 24, 25, HIGH}) {
            Check.asked("found(" + n + ")", x, x.found(n), BAD, 0);
        }
        Check.asked("an ANY", x, x.found(23), STATE, 0);
        Check.asked("a ONE", x, x.found(22), 1, 5);
        x.knows(23, LOW);
        Check.asked("the last name", x, x.found(23), 1, LOW);
        x.knows(0, HIGH);
        Check.asked("the first name", x, x.found(0), 1, HIGH);
        Check.asked("an ANY again", x, x.found(1), STATE, HIGH);
        x = diamond();
        x.knows(1, 0);
        Check.asked("a NEVER", x, x.found(2), STATE, 0);
        Check.asked("found(5)", x, x.found(5), 1, 7);
        Check.asked("found(6)", x, x.found(6), BAD, 7);
        Check.due("found(0) of none", nameless().found(0), BAD);
    }

    private static void blockNumbers() {
        Check.says("block: Of a BLOCK: 0 .. 8. BAD");
        FlowConstants x = largest();
        for (int b : new int[] {LOW, -2, -1, 8, 9, HIGH}) {
            for (int what = -1; what <= 9; what++) {
                Check.due("block(" + b + ", " + what + ")", x.block(b, what), BAD);
            }
        }
        for (int what : new int[] {LOW, -2, -1, 9, 10, HIGH}) {
            Check.due("block(0, " + what + ")", x.block(0, what), BAD);
            Check.due("block(7, " + what + ")", x.block(7, what), BAD);
        }
        x = diamond();
        Check.due("block(3, 0)", x.block(3, 0), 1);
        Check.due("block(4, 0)", x.block(4, 0), BAD);
    }

    private static void blockAnswers() {
        Check.says("block: 0 whether it is LIVE (1, 0) .. 3 the NAME of that (NONE), 4, 5 where it goes (NONE), "
            + "6, 7 whether that EDGE is LIVE (1, 0), 8 BLOCKS that DOMINATE it (bits)");
        FlowConstants x = largest();
        blockRow(x, 0, 1, 23, 0, NONE, 7, NONE, 1, 0, 1);
        blockRow(x, 1, 1, 0, 2, 0, NONE, NONE, 0, 0, 131);
        blockRow(x, 3, 0, 0, 2, 0, NONE, NONE, 0, 0, 255);
        blockRow(x, 7, 1, 1, 1, 23, 1, 2, 1, 1, 129);
        x.knows(23, 0);
        blockRow(x, 1, 0, 0, 2, 0, NONE, NONE, 0, 0, 131);
        blockRow(x, 7, 1, 1, 1, 23, 1, 2, 0, 1, 129);
        x.turned(7);
        blockRow(x, 7, 1, 1, 1, 23, 2, 1, 0, 1, 129);
        blockRow(nameless(), 0, 1, 0, 0, NONE, 1, NONE, 1, 0, 1);
        blockRow(nameless(), 1, 1, 0, 0, NONE, 1, NONE, 1, 0, 3);
    }

    private static void blockRow(FlowConstants x, int b, int... due) {
        for (int what = 0; what < due.length; what++) {
            Check.due("block(" + b + ", " + what + ")", x.block(b, what), due[what]);
        }
    }

    private static void knows() {
        Check.says("An INPUT is KNOWN to be v: how many NAMES are ONE then. BAD: also no INPUT");
        FlowConstants x = largest();
        for (int n : new int[] {LOW, -1, 22, 24, 25, HIGH}) {
            Check.due("knows(" + n + ", 0)", x.knows(n, 0), BAD);
        }
        Check.due("knows(0, LOW)", x.knows(0, LOW), 2);
        Check.due("knows(21, HIGH)", x.knows(21, HIGH), 3);
        Check.due("knows(23, -1)", x.knows(23, -1), 4);
        Check.due("once more", x.knows(23, -1), 4);
        Check.due("otherwise", x.knows(23, 0), 4);
        Check.due("count(11)", x.count(11), 5);
        x = diamond();
        for (int n : new int[] {0, 2, 3, 4, 5, 6}) {
            Check.due("knows(" + n + ", 1) of no input", x.knows(n, 1), BAD);
        }
        Check.due("knows(1, 1)", x.knows(1, 1), 5);
        Check.due("knows(0, 0) of none", nameless().knows(0, 0), BAD);
    }

    private static void forgets() {
        Check.says("It is not KNOWN any more: how many NAMES are ONE then. BAD; STATE: it is not");
        FlowConstants x = largest();
        for (int n : new int[] {LOW, -1, 22, 24, 25, HIGH}) {
            Check.due("forgets(" + n + ")", x.forgets(n), BAD);
        }
        Check.due("forgets(23), not known", x.forgets(23), STATE);
        x.knows(23, 1);
        Check.due("forgets(0), not known", x.forgets(0), STATE);
        Check.due("forgets(23)", x.forgets(23), 1);
        Check.due("forgets(23) again", x.forgets(23), STATE);
        x.knows(23, 1);
        x.undo();
        Check.due("forgets(23), undone", x.forgets(23), STATE);
        x = diamond();
        for (int n : new int[] {0, 2, 3, 4, 5, 6}) {
            Check.due("forgets(" + n + ") of no input", x.forgets(n), BAD);
        }
        x.knows(1, 0);
        Check.due("forgets(1)", x.forgets(1), 3);
    }

    private static void gives() {
        Check.says("An INPUT is GIVEN as v: what it was GIVEN as, told by asked(): 1. BAD");
        FlowConstants x = largest();
        x.found(22);
        for (int n : new int[] {LOW, -1, 22, 24, 25, HIGH}) {
            Check.asked("gives(" + n + ", 0)", x, x.gives(n, 0), BAD, 5);
        }
        Check.asked("gives(23, LOW)", x, x.gives(23, LOW), 1, 0);
        Check.asked("gives(23, HIGH)", x, x.gives(23, HIGH), 1, LOW);
        Check.asked("gives(23, -1)", x, x.gives(23, -1), 1, HIGH);
        Check.asked("gives(23, -1) again", x, x.gives(23, -1), 1, -1);
        Check.asked("gives(0, 1)", x, x.gives(0, 1), 1, 0);
        x.knows(0, 9);
        Check.asked("gives(0, 2), known", x, x.gives(0, 2), 1, 1);
        x = diamond();
        for (int n : new int[] {0, 2, 3, 4, 5, 6}) {
            Check.asked("gives(" + n + ", 1) of no input", x, x.gives(n, 1), BAD, 0);
        }
    }

    private static void patches() {
        Check.says("A NUMBER is PATCHED (0 .. 999): what it was. BAD: also no NUMBER; STATE: it is so");
        FlowConstants x = largest();
        for (int n : new int[] {LOW, -1, 0, 21, 23, 24, 25, HIGH}) {
            Check.due("patches(" + n + ", 1)", x.patches(n, 1), BAD);
        }
        for (int v : new int[] {LOW, -2, -1, 1000, 1001, HIGH}) {
            Check.due("patches(22, " + v + ")", x.patches(22, v), BAD);
        }
        Check.due("it is so", x.patches(22, 5), STATE);
        Check.due("patches(22, 0)", x.patches(22, 0), 5);
        Check.due("patches(22, 0) again", x.patches(22, 0), STATE);
        Check.due("patches(22, 999)", x.patches(22, 999), 0);
        Check.due("patches(22, 999) again", x.patches(22, 999), STATE);
        Check.due("patches(22, 998)", x.patches(22, 998), 999);
        Check.due("patches(22, 1)", x.patches(22, 1), 998);
        Check.due("as told", x.patches(22, 5), 1);
        Check.due("count(11)", x.count(11), 5);
        x.undo();
        Check.due("it is so, undone", x.patches(22, 1), STATE);
        x = diamond();
        for (int n : new int[] {1, 4, 5, 6}) {
            Check.due("patches(" + n + ", 1) of no number", x.patches(n, 1), BAD);
            Check.due("patches(" + n + ", 1000) of no number", x.patches(n, 1000), BAD);
        }
    }

    private static void turned() {
        Check.says("An END is TURNED: how many BLOCKS are LIVE then. BAD; STATE: it is by no NAME");
        FlowConstants x = largest();
        for (int b : new int[] {LOW, -1, 8, 9, HIGH}) {
            Check.due("turned(" + b + ")", x.turned(b), BAD);
        }
        for (int b = 0; b <= 6; b++) {
            Check.due("turned(" + b + ")", x.turned(b), STATE);
        }
        Check.due("turned(7)", x.turned(7), 4);
        x.knows(23, 0);
        Check.due("turned(7), known", x.turned(7), 3);
        Check.due("count(11)", x.count(11), 3);
        x = diamond();
        Check.due("turned(3)", x.turned(3), STATE);
        Check.due("turned(4)", x.turned(4), BAD);
        x = Check.read("b;k1;z0;b;q0 1 2;b;z0;", 1);
        Check.due("of a dead block", x.turned(1), 1);
        Check.due("it is turned all the same", x.block(1, 4), 2);
    }

    private static void undo() {
        Check.says("UNDONE: how many more may be. STATE: none");
        FlowConstants x = new FlowConstants();
        Check.due("of no program", x.undo(), STATE);
        x = diamond();
        Check.due("of none", x.undo(), STATE);
        x.turned(0);
        Check.due("of one", x.undo(), 0);
        Check.due("of none again", x.undo(), STATE);
        for (int i = 0; i < 11; i++) {
            x.turned(0);
        }
        Check.due("of ten", x.undo(), 9);
        x.turned(0);
        Check.due("count(11)", x.count(11), 10);
        for (int more = 9; more >= 0; more--) {
            Check.due("undo()", x.undo(), more);
        }
        Check.due("of none once more", x.undo(), STATE);
        Check.due("the eleventh is lost", x.block(0, 4), 2);
        Check.due("of refused ones", x.knows(0, 1) + x.undo(), BAD + STATE);
    }

    private static void run() {
        Check.says("RUN: 0 RETURNS (the number by asked()), 1 TRAPS (the NAME by asked()), 2 is ENDLESS. "
            + "STATE: no BLOCKS");
        FlowConstants x = new FlowConstants();
        Check.asked("of no blocks", x, x.run(), STATE, 0);
        Check.type(x, NAMELESS);
        Check.asked("of no blocks yet", x, x.run(), STATE, 0);
        x.program();
        Check.asked("of no names", x, x.run(), 2, 0);
        x = Check.read("b;i;z0;", 1);
        for (int v : new int[] {LOW, -1, 0, 1, HIGH}) {
            x.gives(0, v);
            Check.asked("returns " + v, x, x.run(), 0, v);
        }
        x = Check.type(new FlowConstants(), "b;i;z1;");
        Check.due("program() of what is not STRICT", x.program(), -17);
        Check.asked("of a program that was not read", x, x.run(), STATE, 0);
        x = Check.read("b;g2;b;o1%1;z0;b;i;g1;", 2);
        Check.asked("traps at NAME 0", x, x.run(), 1, 0);
        x.gives(1, 1);
        Check.asked("returns", x, x.run(), 0, 0);
    }

    private static void visits() {
        Check.says("How often a BLOCK is come to in RUN. BAD");
        FlowConstants x = largest();
        for (int b : new int[] {LOW, -1, 8, 9, HIGH}) {
            Check.due("visits(" + b + ")", x.visits(b), BAD);
        }
        int[] due = {1, 0, 1, 0, 0, 0, 0, 1};
        for (int b = 0; b <= 7; b++) {
            Check.due("visits(" + b + ")", x.visits(b), due[b]);
        }
        x = nameless();
        Check.due("visits(0)", x.visits(0), 1);
        Check.due("visits(1)", x.visits(1), 59);
        Check.due("visits(2)", x.visits(2), BAD);
    }

    private static void last() {
        Check.says("What a NAME is as RUN is over (0: never made), told by asked(): 1. BAD");
        FlowConstants x = largest();
        x.gives(23, LOW);
        x.gives(0, HIGH);
        for (int n : new int[] {LOW, -1, 24, 25, HIGH}) {
            Check.asked("last(" + n + ")", x, x.last(n), BAD, 0);
        }
        Check.asked("last(0)", x, x.last(0), 1, HIGH);
        Check.asked("last(22)", x, x.last(22), 1, 5);
        Check.asked("last(23)", x, x.last(23), 1, LOW);
        x = diamond();
        Check.asked("never made", x, x.last(2), 1, 0);
        Check.asked("made", x, x.last(3), 1, 2);
        Check.asked("last(6)", x, x.last(6), BAD, 2);
        x = Check.read("b;k3;i;o0/1;k4;z0;", 4);
        Check.asked("ahead of a trap", x, x.last(0), 1, 3);
        Check.asked("what traps", x, x.last(2), 1, 0);
        Check.asked("behind a trap", x, x.last(3), 1, 0);
        // 3 is 2, then 0 traps at 4, which was 7 / 2 before.
        x = Check.read("b;k2;k7;k2;g1;b;j0 0 1 5;o1/3;o3-2;q1 1 2;b;z0;", 6);
        Check.asked("traps the second time", x, x.run(), 1, 4);
        Check.asked("as it was made the first time", x, x.last(4), 1, 3);
        Check.asked("the join of the second time", x, x.last(3), 1, 0);
        Check.asked("made the first time alone", x, x.last(5), 1, 0);
    }

    private static void count() {
        Check.says("count: 0 NAMES .. 12 bytes of THE TEXT. BAD");
        FlowConstants x = diamond();
        for (int what : new int[] {LOW, -2, -1, 13, 14, HIGH}) {
            Check.due("count(" + what + ")", x.count(what), BAD);
            Check.due("count(" + what + ") of none", new FlowConstants().count(what), BAD);
        }
        counts(x, 6, 4, 4, 4, 4, 3, 0, 0, 0, 3, 0, 0, 0);
        x.knows(1, 0);
        x.type('b');
        counts(x, 6, 4, 4, 3, 2, 5, 1, 3, 1, 0, 2, 1, 1);
        counts(nameless(), 0, 2, 2, 2, 2, 0, 0, 0, 0, 0, 0, 0, 0);
        counts(Check.read("b;i;z0;", 1), 1, 1, 0, 1, 0, 0, 0, 0, 0, 1, 0, 0, 0);
    }

    private static void counts(FlowConstants x, int... due) {
        for (int what = 0; what < due.length; what++) {
            Check.due("count(" + what + ")", x.count(what), due[what]);
        }
    }

    private static void countOfLargest() {
        FlowConstants x = largest();
        counts(x, 24, 8, 3, 4, 3, 1, 0, 0, 0, 23, 0, 0, 0);
        for (int i = 0; i < 11; i++) {
            x.knows(23, 0);
        }
        Check.type(x, " ".repeat(151));
        counts(x, 24, 8, 3, 3, 2, 2, 0, 1, 1, 22, 0, 10, 150);
        x = Check.read("b;i;" + "q0 1 2;b;".repeat(7) + "q0 1 2;", 1);
        counts(x, 1, 8, 16, 3, 6, 0, 0, 0, 0, 1, 0, 0, 0);
        x = Check.read("b;i;q0 1 2;b;q0 2 3;b;q0 3 4;b;q0 4 5;b;q0 5 6;b;q0 6 7;b;q0 7 1;b;q0 1 2;", 1);
        counts(x, 1, 8, 16, 8, 16, 0, 0, 0, 0, 1, 0, 0, 0);
        x.knows(0, 1);
        counts(x, 1, 8, 16, 8, 8, 1, 0, 1, 8, 0, 0, 1, 0);
    }

    private static void best() {
        Check.says("BEST (what = 0), how many more (1); NONE: all are KNOWN, there is none. BAD");
        for (int what : new int[] {LOW, -2, -1, 2, 3, HIGH}) {
            Check.due("best(" + what + ")", diamond().best(what), BAD);
            Check.due("best(" + what + ") of none", new FlowConstants().best(what), BAD);
            Check.due("best(" + what + ") without inputs", nameless().best(what), BAD);
        }
        Check.due("best(0)", diamond().best(0), 1);
        Check.due("best(1)", diamond().best(1), 3);
        Check.due("best(0) of none", nameless().best(0), NONE);
        Check.due("best(1) of none", nameless().best(1), NONE);
        FlowConstants x = largest();
        Check.due("the lowest", x.best(0), 0);
        for (int n = 0; n <= 21; n++) {
            x.knows(n, 0);
        }
        Check.due("the last", x.best(0), 23);
        Check.due("how many more", x.best(1), 1);
        x.knows(23, 0);
        Check.due("all are known", x.best(0), NONE);
        Check.due("all are known", x.best(1), NONE);
    }

    private static void keep() {
        Check.says("An IMAGE is kept: NAMES. BAD");
        for (int image : new int[] {LOW, -2, -1, 2, 3, HIGH}) {
            Check.due("keep(" + image + ")", diamond().keep(image), BAD);
            Check.due("keep(" + image + ") of none", new FlowConstants().keep(image), BAD);
        }
        for (int image = 0; image <= 1; image++) {
            Check.due("keep(" + image + ")", diamond().keep(image), 6);
            Check.due("keep(" + image + ")", largest().keep(image), 24);
            Check.due("keep(" + image + ")", nameless().keep(image), 0);
        }
    }

    private static void back() {
        Check.says("All of that becomes as an IMAGE has it: NAMES. BAD; STATE: none was kept");
        FlowConstants x = largest();
        for (int image : new int[] {LOW, -2, -1, 2, 3, HIGH}) {
            Check.due("back(" + image + ")", x.back(image), BAD);
        }
        Check.due("back(0)", x.back(0), STATE);
        Check.due("back(1)", x.back(1), STATE);
        x.keep(5);
        Check.due("behind a keep() that was refused", x.back(1), STATE);
        x.keep(1);
        x.knows(23, 4);
        x.patches(22, 999);
        x.gives(0, LOW);
        x.turned(7);
        Check.due("back(1)", x.back(1), 24);
        Check.due("not known", x.name(23, 5), 0);
        Check.asked("the number", x, x.found(22), 1, 5);
        Check.asked("given", x, x.last(0), 1, 0);
        Check.due("the end", x.block(7, 4), 1);
        Check.due("back(0), still none", x.back(0), STATE);
        x = nameless();
        x.keep(0);
        Check.due("back(0) without names", x.back(0), 0);
    }

    private static void asked() {
        Check.says("What the latest found(), gives(), run(), last() that was not refused told; 0 before "
            + "(and of an ENDLESS run)");
        FlowConstants x = new FlowConstants();
        Check.due("before", x.asked(), 0);
        Check.asked("run() refused", x, x.run(), STATE, 0);
        x = diamond();
        Check.due("before, with a program", x.asked(), 0);
        Check.asked("found()", x, x.found(0), 1, 5);
        Check.asked("found() refused: STATE", x, x.found(1), STATE, 5);
        Check.asked("found() refused: BAD", x, x.found(6), BAD, 5);
        Check.asked("gives()", x, x.gives(1, LOW), 1, 0);
        Check.asked("gives() once more", x, x.gives(1, 3), 1, LOW);
        Check.asked("gives() refused", x, x.gives(0, 3), BAD, LOW);
        Check.asked("run()", x, x.run(), 0, 6);
        Check.asked("last()", x, x.last(1), 1, 3);
        Check.asked("last() refused", x, x.last(-1), BAD, 3);
        Check.asked("undo() takes nothing back of it", x, x.undo(), 1, 3);
        Check.type(x, NAMELESS);
        Check.asked("program()", x, x.program(), 0, 3);
        Check.asked("an endless run", x, x.run(), 2, 0);
        x = Check.read("b;i;o0/0;z0;", 2);
        Check.asked("a run that traps", x, x.run(), 1, 1);
    }
}
