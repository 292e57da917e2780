/** For each promise of the document: ordinary calls, its edges, wrong ones. */
public final class PromisesTest {
    private static final int BAD = -1, STATE = -2, FULL = -3, NONE = -9;
    private static final int NEVER = 0, ONE = 1, ANY = 2;
    private static final int LOW = Integer.MIN_VALUE, HIGH = Integer.MAX_VALUE;

    /** An INPUT (1) chooses between 1 and 2, which are joined (4), 5 more is returned (5). */
    private static final String DIAMOND = "b;k5;i;q1 1 2;b;k1;g3;b;k2;g3;b;j1 2 2 3;o4+0;z5;";

    /** Counts from 0 (0) by 1 (1) up to 9 (2); 3 is the counter. */
    private static final String LOOP = "b;k0;k1;k9;g1;b;j0 0 2 5;o3<2;q4 2 3;b;o3+1;g1;b;z3;";

    /** Divides an INPUT by 0, or what 1 is patched to; then by another INPUT. */
    private static final String TRAP = "b;i;k0;i;o0/1;o0%2;q3 1 2;b;z0;b;o4*4;z5;";

    /** A choice by a number (0): BLOCK 2 is dead, the join (3) folds to 1. */
    private static final String DEAD = "b;k7;q0 1 2;b;k1;g3;b;k2;g3;b;j1 1 2 2;o3+0;z4;";

    /** A loop whose join (3) stays 1, as BLOCK 3, where it would be 4, is never come to. */
    private static final String TOGETHER =
        "b;k1;k2;i;g1;b;j0 0 4 6;o3=0;q4 2 3;b;g4;b;o1+1;g4;b;j2 0 3 5;q2 1 5;b;z3;";

    public static void main(String[] args) {
        constants();
        newObject();
        type();
        clear();
        program();
        faultsOfItems();
        faultsOfTokens();
        faultsOfNumerals();
        faultsOfStrictness();
        programReadAnew();
        name();
        found();
        signs();
        foundOverLoops();
        block();
        dominators();
        knows();
        forgets();
        gives();
        patches();
        turned();
        undo();
        undoForgetsTheOldest();
        run();
        runOfSixtyBlocks();
        joinsAtOnce();
        visits();
        last();
        runIsOfNow();
        count();
        best();
        keep();
        back();
        asked();
        Check.end("PromisesTest");
    }

    private static void constants() {
        Check.due("BAD", FlowConstants.BAD, -1);
        Check.due("STATE", FlowConstants.STATE, -2);
        Check.due("FULL", FlowConstants.FULL, -3);
        Check.due("NONE", FlowConstants.NONE, -9);
        Check.due("NEVER", FlowConstants.NEVER, 0);
        Check.due("ONE", FlowConstants.ONE, 1);
        Check.due("ANY", FlowConstants.ANY, 2);
    }

    // Promise 1
    private static void newObject() {
        FlowConstants x = new FlowConstants();
        for (int what = 0; what <= 12; what++) {
            Check.due("1: count(" + what + ")", x.count(what), 0);
        }
        Check.due("1: name(0, 0)", x.name(0, 0), BAD);
        Check.due("1: found(0)", x.found(0), BAD);
        Check.due("1: block(0, 0)", x.block(0, 0), BAD);
        Check.due("1: knows(0, 0)", x.knows(0, 0), BAD);
        Check.due("1: forgets(0)", x.forgets(0), BAD);
        Check.due("1: gives(0, 0)", x.gives(0, 0), BAD);
        Check.due("1: patches(0, 0)", x.patches(0, 0), BAD);
        Check.due("1: turned(0)", x.turned(0), BAD);
        Check.due("1: undo()", x.undo(), STATE);
        Check.due("1: run()", x.run(), STATE);
        Check.due("1: visits(0)", x.visits(0), BAD);
        Check.due("1: last(0)", x.last(0), BAD);
        Check.due("1: best(0)", x.best(0), NONE);
        Check.due("1: best(1)", x.best(1), NONE);
        Check.due("1: back(0)", x.back(0), STATE);
        Check.due("1: keep(0)", x.keep(0), 0);
        Check.due("1: back(0) of an image of nothing", x.back(0), 0);
        Check.due("1: asked()", x.asked(), 0);
        Check.due("1: clear()", x.clear(), 0);
    }

    // Promise 2
    private static void type() {
        FlowConstants x = new FlowConstants();
        Check.due("2: type(-1)", x.type(-1), BAD);
        Check.due("2: type(256)", x.type(256), BAD);
        Check.due("2: type(LOW)", x.type(LOW), BAD);
        Check.due("2: type(HIGH)", x.type(HIGH), BAD);
        Check.due("2: type(0)", x.type(0), 1);
        Check.due("2: type(255)", x.type(255), 2);
        for (int i = 3; i <= 150; i++) {
            Check.due("2: type(32)", x.type(32), i);
        }
        Check.due("2: one byte too many", x.type(32), FULL);
        Check.due("2: bad, though full", x.type(256), BAD);
        Check.due("2: bytes", x.count(12), 150);
    }

    // Promise 3
    private static void clear() {
        FlowConstants x = Check.read(DIAMOND, 6);
        Check.due("3: clear() of nothing", x.clear(), 0);
        Check.type(x, "b;k");
        Check.due("3: clear()", x.clear(), 3);
        Check.due("3: bytes", x.count(12), 0);
        Check.due("3: clear() again", x.clear(), 0);
        Check.due("3: type(98)", x.type(98), 1);
        Check.due("3: the program stays", x.count(0), 6);
    }

    // Promise 4
    private static void program() {
        FlowConstants x = Check.read(DIAMOND, 6);
        Check.due("4: the text is empty", x.count(12), 0);
        Check.due("4: blocks", x.count(1), 4);
        Check.due("4: an empty text", x.program(), -10);
        Check.due("4: nothing changes", x.count(1), 4);
        x = Check.read("  b ;k 0; k 999 ;o 1 & 0;z  2 ; ", 3);
        Check.due("4: with blanks: run()", x.run(), 0);
        Check.read("b;i;i;i;i;i;i;i;i;i;i;i;i;i;i;i;i;i;i;i;i;i;i;i;i;z23;", 24);
        Check.read("b;i;z0;b;z0;b;z0;b;z0;b;z0;b;z0;b;z0;b;z0;", 1);
        Check.read("b;k1;g1;b;q0 2 3;b;q0 4 3;b;j1 0 2 0 4 0;z1;b;g3;", 2);
        Check.read("b;k1;g1;b;j0 0 1 1;q1 1 2;b;z1;", 2);
        Check.read("b;k1;g1;b;j0 0 1 2;o1+0;q2 1 2;b;z1;", 3);
    }

    private static void faultsOfItems() {
        Check.fault("", 0);
        Check.fault("   ", 3);
        Check.fault("b", 1);
        Check.fault("b;", 2);
        Check.fault("b;k1;z0", 7);
        Check.fault("b;k1;z0;b", 9);
        Check.fault("b;k1;z0;b;  ", 12);
        Check.fault("a;", 0);
        Check.fault("B;", 0);
        Check.fault(" x;", 1);
        Check.fault("k1;", 0);
        Check.fault("z0;", 0);
        Check.fault("b;b;", 2);
        Check.fault("b;k1;b;", 5);
        Check.fault("b;k1;z0;k1;", 8);
        Check.fault("b;k1;z0;z0;", 8);
        Check.fault("b;k1;z0;g0;", 8);
        Check.fault("b;k1;g1;j0 0;", 8);
        Check.fault("b;j0 0;", 2);
        Check.fault("b;k1;g1;b;k2;j0 0;z0;", 13);
        Check.fault("b;k1;g1;b;j0 0;i;j0 0;z0;", 17);
        Check.fault("b;i;z0;b;z0;b;z0;b;z0;b;z0;b;z0;b;z0;b;z0;b;z0;", 42);
        Check.fault("b;i;i;i;i;i;i;i;i;i;i;i;i;i;i;i;i;i;i;i;i;i;i;i;i;k1;", 50);
        Check.fault("b;i;i;i;i;i;i;i;i;i;i;i;i;i;i;i;i;i;i;i;i;i;i;i;i; o0+0;", 51);
        Check.fault("b;i;i;i;i;i;i;i;i;i;i;i;i;i;i;i;i;i;i;i;i;i;i;i;g1;b;j0 0;j0 0;z0;", 58);
        Check.fault("b;k1;z0;!", 8);
    }

    private static void faultsOfTokens() {
        Check.fault("bb;", 0);
        Check.fault("ba;", 0);
        Check.fault("bz;", 0);
        Check.fault("b;ki;", 2);
        Check.fault("b;kz1;", 2);
        Check.fault("b k1;", 2);
        Check.fault("b;;", 2);
        Check.fault(";", 0);
        Check.fault("7;", 0);
        Check.fault("+;", 0);
        Check.fault("b;k;", 3);
        Check.fault("b;k i;", 4);
        Check.fault("b;k1 2;", 5);
        Check.fault("b;k-1;", 3);
        Check.fault("b;k1+;", 4);
        Check.fault("b;i 1;", 4);
        Check.fault("b;i;o0;", 6);
        Check.fault("b;i;o0 0;", 7);
        Check.fault("b;i;o0!0;", 6);
        Check.fault("b;i;o0+;", 7);
        Check.fault("b;i;o0+0 0;", 9);
        Check.fault("b;i;o+0 0;", 5);
        Check.fault("b;i;z;", 5);
        Check.fault("b;i;z0 0;", 7);
        Check.fault("b;i;g;", 5);
        Check.fault("b;i;g1 2;", 7);
        Check.fault("b;i;q0 1;", 8);
        Check.fault("b;i;q0 1 2 3;", 11);
        Check.fault("b;i;g1;b;j;", 10);
        Check.fault("b;i;g1;b;j0;", 11);
        Check.fault("b;i;g1;b;j0 0 1;", 15);
        Check.fault("b;i;g1;b;j0 0 1 0 2 0 3 0;", 22);
        Check.fault("b;i;g1;b;j0 0 1 0 2 0 k;", 22);
        Check.fault("b;i;g1;b;j0 0 1 0 0 0;", 18);
        Check.fault("b;i;q0 1 1;", 9);
        Check.fault("b;\tk1;", 2);
        Check.fault("b;\nk1;", 2);
        Check.fault("b;k1" + (char) 200 + ";", 4);
        Check.fault("b;k1" + (char) 0 + ";", 4);
        Check.fault("b;i;o0>0;", 6);
        Check.fault("b;i;o0|0;", 6);
    }

    private static void faultsOfNumerals() {
        Check.fault("b;k1000;", 3);
        Check.fault("b;k 999999999999999999999;", 4);
        Check.fault("b;k00;", 3);
        Check.fault("b;k01;", 3);
        Check.fault("b;k0005;", 3);
        Check.fault("b;i;z00;", 5);
        Check.fault("b;i;z24;", 5);
        Check.fault("b;i;g8;", 5);
        Check.fault("b;i;q24 1 2;", 5);
        Check.fault("b;i;q0 8 2;", 7);
        Check.fault("b;i;q0 1 8;", 9);
        Check.fault("b;i;o24+0;", 5);
        Check.fault("b;i;o0+24;", 7);
        Check.fault("b;i;g1;b;j8 0;", 10);
        Check.fault("b;i;g1;b;j0 24;", 12);
        Check.fault("b;i;z23;", 8);
        Check.fault("b;i;g7;", 7);
    }

    /** Each of these stands but for one thing that is not STRICT. */
    private static void faultsOfStrictness() {
        Check.notStrict("b;z0;");
        Check.notStrict("b;k1;z1;");
        Check.notStrict("b;k1;g1;");
        Check.notStrict("b;k1;g0;");
        Check.notStrict("b;k1;g1;b;q0 0 1;");
        Check.notStrict("b;o0+0;z0;");
        Check.notStrict("b;o1+1;k1;z1;");
        Check.notStrict("b;o0+5;z0;");
        Check.notStrict("b;g1;b;j0 0;z0;");
        Check.notStrict("b;k1;o0+1;z1;");
        Check.notStrict("b;k1;o2+0;k1;z1;");
        Check.notStrict("b;k1;o0+9;z1;");
        Check.notStrict("b;k1;g1;b;j0 9;z0;");
        Check.notStrict("b;k1;g1;b;o0+9;z1;");
        Check.notStrict("b;k1;g1;b;o9+0;z1;");
        Check.notStrict("b;k1;g1;b;z9;");
        Check.notStrict("b;k1;g1;b;j0 0 2 0;z0;");
        Check.notStrict("b;k1;q0 1 2;b;g2;b;j1 0;z0;");
        Check.notStrict("b;k1;q0 1 2;b;g2;b;j0 0;z0;");
        Check.notStrict("b;k1;q0 1 2;b;k2;g2;b;j0 1 1 0;z0;");
        Check.notStrict("b;k1;q0 1 2;b;k2;g2;b;z1;");
        Check.notStrict("b;k1;q0 1 2;b;k2;g2;b;o0+1;z0;");
        Check.notStrict("b;k1;g1;b;k2;z0;b;j1 0;z0;");
        Check.notStrict("b;k1;g1;b;j0 1;z0;");
        Check.notStrict("b;i;q0 1 2;b;j0 0 3 0;z0;b;g1;b;g1;");
        Check.read("b;k1;q0 1 2;b;k2;g2;b;j0 0 1 1;z0;", 3);
        // Where there is no way, any BLOCK dominates: but its own NAMES must be ahead.
        Check.read("b;k1;z0;b;o2+0;z0;b;o1+1;z1;", 3);
        Check.read("b;k1;z0;b;j2 2;g2;b;j1 1;g1;", 3);
        Check.notStrict("b;k1;z0;b;o1+0;z0;");
        Check.notStrict("b;k1;z0;b;j1 0;z0;");
    }

    private static void programReadAnew() {
        FlowConstants x = Check.read(DIAMOND, 6);
        x.knows(1, 3);
        x.gives(1, 4);
        x.patches(0, 9);
        x.turned(0);
        x.keep(0);
        Check.type(x, "b;x");
        Check.due("4: a fault", x.program(), -12);
        Check.due("4: the text stays", x.clear(), 3);
        Check.due("4: what can be undone stays", x.count(11), 4);
        Check.due("4: the image stays", x.back(0), 6);
        Check.due("4: what is known stays", x.name(1, 5), 1);
        x.knows(1, 3);
        Check.type(x, DIAMOND);
        Check.due("4: read anew", x.program(), 6);
        Check.due("4: nothing can be undone", x.count(11), 0);
        Check.due("4: undo()", x.undo(), STATE);
        Check.due("4: no image", x.back(0), STATE);
        Check.due("4: nothing is known", x.name(1, 5), 0);
        Check.due("4: where it goes", x.block(0, 4), 1);
        Check.asked("4: the number as told", x, x.found(0), 1, 5);
        Check.asked("4: given as 0", x, x.gives(1, 8), 1, 0);
        Check.type(x, "b;k3;z0;");
        Check.due("4: a smaller one", x.program(), 1);
        Check.due("4: one block", x.count(1), 1);
        Check.due("4: no second block", x.block(1, 0), BAD);
        Check.due("4: no second name", x.name(1, 0), BAD);
        Check.due("4: live edges", x.count(4), 0);
    }

    // Promise 5
    private static void name() {
        FlowConstants x = Check.read(DIAMOND, 6);
        row("name(0, ..)", x, 0, new int[] {0, 0, 0, NONE, NONE, 0, ONE, ONE});
        row("name(1, ..)", x, 1, new int[] {0, 1, 0, NONE, NONE, 0, ANY, ANY});
        row("name(2, ..)", x, 2, new int[] {1, 0, 0, NONE, NONE, 0, ONE, ONE});
        row("name(4, ..)", x, 4, new int[] {3, 3, 2, NONE, NONE, 0, ANY, ANY});
        row("name(5, ..)", x, 5, new int[] {3, 2, '+', 4, 0, 0, ANY, ANY});
        x.knows(1, 7);
        row("name(1, ..) known", x, 1, new int[] {0, 1, 0, NONE, NONE, 1, ONE, ONE});
        row("name(3, ..) dead", x, 3, new int[] {2, 0, 0, NONE, NONE, 0, NEVER, ONE});
        row("name(4, ..) folded", x, 4, new int[] {3, 3, 2, NONE, NONE, 0, ONE, ANY});
        Check.due("5: name(6, 0)", x.name(6, 0), BAD);
        Check.due("5: name(-1, 0)", x.name(-1, 0), BAD);
        Check.due("5: name(0, 8)", x.name(0, 8), BAD);
        Check.due("5: name(0, -1)", x.name(0, -1), BAD);
        Check.due("5: name(LOW, 0)", x.name(LOW, 0), BAD);
        Check.due("5: name(HIGH, HIGH)", x.name(HIGH, HIGH), BAD);
        x = Check.read("b;i;q0 1 2;b;g3;b;q0 3 4;b;j1 0 2 0 4 0;z1;b;g3;", 2);
        Check.due("5: three arms", x.name(1, 2), 3);
        x = Check.read("b;i;o0/0;g1;b;j0 1;z2;", 3);
        Check.due("5: one arm", x.name(2, 2), 1);
        Check.due("5: a sign", x.name(1, 2), '/');
        // A NAME of a BLOCK that is dead, even if all EDGES of live ones are.
        x = Check.read("b;k1;z0;b;k2;z1;", 2);
        Check.due("5: never", x.name(1, 6), NEVER);
        Check.due("5: never if plain", x.name(1, 7), NEVER);
    }

    private static void row(String call, FlowConstants x, int n, int[] due) {
        for (int what = 0; what < due.length; what++) {
            Check.due("5: " + call + " " + what, x.name(n, what), due[what]);
        }
    }

    // Promise 6
    private static void found() {
        FlowConstants x = Check.read(DEAD, 5);
        Check.asked("6: found(0)", x, x.found(0), 1, 7);
        Check.asked("6: found(1)", x, x.found(1), 1, 1);
        Check.asked("6: found(2) is never", x, x.found(2), STATE, 1);
        Check.asked("6: found(3)", x, x.found(3), 1, 1);
        Check.asked("6: found(4)", x, x.found(4), 1, 8);
        Check.asked("6: found(5)", x, x.found(5), BAD, 8);
        Check.asked("6: found(-1)", x, x.found(-1), BAD, 8);
        Check.asked("6: found(HIGH)", x, x.found(HIGH), BAD, 8);
        x = Check.read(DIAMOND, 6);
        Check.asked("6: found(1) is any", x, x.found(1), STATE, 0);
        x = Check.read("b;k1;i;q1 1 2;b;k4;g3;b;k4;g3;b;j1 2 2 3;z4;", 5);
        Check.asked("6: arms of one number", x, x.found(4), 1, 4);
        // What an ANY makes is ANY, be it by 0 or by itself.
        x = Check.read("b;i;k0;o0*1;o0-0;o0=0;o1/1;z2;", 6);
        for (int n = 2; n <= 5; n++) {
            Check.due("6: found(" + n + ")", x.found(n), STATE);
            Check.due("6: name(" + n + ", 6)", x.name(n, 6), ANY);
        }
    }

    private static void signs() {
        sign('+', HIGH, 1, LOW);
        sign('-', LOW, 1, HIGH);
        sign('*', 65536, 65536, 0);
        sign('*', -3, 7, -21);
        sign('/', -7, 2, -3);
        sign('/', LOW, -1, LOW);
        sign('%', -7, 2, -1);
        sign('%', 7, -2, 1);
        sign('%', LOW, -1, 0);
        sign('&', -1, 12, 12);
        sign('^', -1, 12, -13);
        sign('<', LOW, HIGH, 1);
        sign('<', 3, 3, 0);
        sign('<', 4, 3, 0);
        sign('=', 3, 3, 1);
        sign('=', 3, 4, 0);
    }

    private static void sign(char sign, int x, int y, int due) {
        FlowConstants c = Check.read("b;i;i;o0" + sign + "1;z2;", 3);
        c.gives(0, x);
        c.gives(1, y);
        Check.asked("14: " + x + sign + y, c, c.run(), 0, due);
        c.knows(0, x);
        Check.due("6: half known", c.found(2), STATE);
        c.knows(1, y);
        Check.asked("6: " + x + sign + y, c, c.found(2), 1, due);
    }

    private static void foundOverLoops() {
        // The way out of the loop is never taken, so its counter stays ONE.
        FlowConstants x = Check.read("b;k1;k0;g1;b;j0 0 2 4;q2 2 3;b;o2*2;o3+1;g1;b;k5;z5;", 6);
        Check.asked("6: the join of a loop", x, x.found(2), 1, 1);
        Check.due("6: the way out is dead", x.block(3, 0), 0);
        Check.due("6: plain, too, it is one", x.name(2, 7), ONE);
        // It starts as ONE, and is another one the second time.
        x = Check.read(LOOP, 6);
        Check.due("6: a counter is any", x.name(3, 6), ANY);
        Check.due("6: what it makes, too", x.name(5, 6), ANY);
        // Only values and what can be reached together find these.
        x = Check.read(TOGETHER, 7);
        Check.asked("6: found(3)", x, x.found(3), 1, 1);
        Check.asked("6: found(6)", x, x.found(6), 1, 1);
        Check.due("6: name(5, 6)", x.name(5, 6), NEVER);
        Check.due("5: name(3, 7)", x.name(3, 7), ANY);
        Check.due("5: name(4, 7)", x.name(4, 7), ANY);
        Check.due("5: name(5, 7)", x.name(5, 7), ONE);
        Check.due("5: name(6, 7)", x.name(6, 7), ANY);
    }

    // Promise 7
    private static void block() {
        FlowConstants x = Check.read(DIAMOND, 6);
        blockRow(x, 0, new int[] {1, 2, 1, 1, 1, 2, 1, 1, 1});
        blockRow(x, 1, new int[] {1, 1, 0, NONE, 3, NONE, 1, 0, 3});
        blockRow(x, 2, new int[] {1, 1, 0, NONE, 3, NONE, 1, 0, 5});
        blockRow(x, 3, new int[] {1, 2, 2, 5, NONE, NONE, 0, 0, 9});
        x.knows(1, 0);
        blockRow(x, 0, new int[] {1, 2, 1, 1, 1, 2, 0, 1, 1});
        blockRow(x, 1, new int[] {0, 1, 0, NONE, 3, NONE, 0, 0, 3});
        blockRow(x, 2, new int[] {1, 1, 0, NONE, 3, NONE, 1, 0, 5});
        x.knows(1, -1);
        blockRow(x, 0, new int[] {1, 2, 1, 1, 1, 2, 1, 0, 1});
        Check.due("7: block(4, 0)", x.block(4, 0), BAD);
        Check.due("7: block(-1, 0)", x.block(-1, 0), BAD);
        Check.due("7: block(0, 9)", x.block(0, 9), BAD);
        Check.due("7: block(0, -1)", x.block(0, -1), BAD);
        Check.due("7: block(LOW, 0)", x.block(LOW, 0), BAD);
        Check.due("7: block(HIGH, LOW)", x.block(HIGH, LOW), BAD);
        // A division that traps is ANY: both ways by it are live.
        x = Check.read(TRAP, 6);
        x.knows(0, 4);
        Check.due("7: behind a trap, one way", x.block(0, 6), 1);
        Check.due("7: behind a trap, the other way", x.block(0, 7), 1);
    }

    private static void blockRow(FlowConstants x, int b, int[] due) {
        for (int what = 0; what < due.length; what++) {
            Check.due("7: block(" + b + ", " + what + ")", x.block(b, what), due[what]);
        }
    }

    private static void dominators() {
        FlowConstants x = Check.read(LOOP, 6);
        dominatorRow(x, new int[] {1, 3, 7, 11});
        x.patches(2, 0);
        Check.due("7: that a block is dead changes nothing", x.block(2, 8), 7);
        dominatorRow(Check.read("b;k1;z0;b;z0;b;g1;", 1), new int[] {1, 7, 7});
        dominatorRow(Check.read("b;i;q0 1 2;b;q0 2 3;b;q0 1 3;b;z0;", 1), new int[] {1, 3, 5, 9});
        dominatorRow(Check.read("b;i;g7;b;z0;b;g1;b;g2;b;g3;b;g4;b;g5;b;g6;", 1),
            new int[] {1, 255, 253, 249, 241, 225, 193, 129});
    }

    private static void dominatorRow(FlowConstants x, int[] due) {
        for (int b = 0; b < due.length; b++) {
            Check.due("7: block(" + b + ", 8)", x.block(b, 8), due[b]);
        }
    }

    // Promise 8
    private static void knows() {
        FlowConstants x = Check.read(DIAMOND, 6);
        Check.due("8: knows(1, 5)", x.knows(1, 5), 5);
        Check.asked("8: found(5)", x, x.found(5), 1, 6);
        Check.due("8: knows(1, 0)", x.knows(1, 0), 5);
        Check.asked("8: found(5)", x, x.found(5), 1, 7);
        Check.due("8: knows(1, LOW)", x.knows(1, LOW), 5);
        Check.asked("8: found(1)", x, x.found(1), 1, LOW);
        Check.due("8: may be undone", x.count(11), 3);
        Check.due("8: a number", x.knows(0, 5), BAD);
        Check.due("8: a join", x.knows(4, 5), BAD);
        Check.due("8: an operation", x.knows(5, 5), BAD);
        Check.due("8: no name", x.knows(6, 5), BAD);
        Check.due("8: knows(-1, 5)", x.knows(-1, 5), BAD);
        Check.due("8: knows(HIGH, 5)", x.knows(HIGH, 5), BAD);
        Check.due("8: refused ones can't be undone", x.count(11), 3);
        Check.asked("8: run() takes it as known", x, x.run(), 0, 6);
        x = Check.read("b;k0;q0 1 2;b;i;z1;b;z0;", 2);
        Check.due("8: in a dead block", x.knows(1, 5), 1);
        Check.due("8: it is known", x.name(1, 5), 1);
        Check.due("8: it is never", x.name(1, 6), NEVER);
    }

    // Promise 9
    private static void forgets() {
        FlowConstants x = Check.read(DIAMOND, 6);
        Check.due("9: not known yet", x.forgets(1), STATE);
        x.gives(1, 3);
        x.knows(1, 0);
        Check.due("9: forgets(1)", x.forgets(1), 3);
        Check.due("9: it is not known", x.name(1, 5), 0);
        Check.due("9: it is any", x.name(1, 6), ANY);
        Check.due("9: forgets(1) again", x.forgets(1), STATE);
        Check.due("9: may be undone", x.count(11), 3);
        Check.asked("9: it is as given", x, x.run(), 0, 6);
        Check.due("9: a number", x.forgets(0), BAD);
        Check.due("9: an operation", x.forgets(5), BAD);
        Check.due("9: no name", x.forgets(6), BAD);
        Check.due("9: forgets(-1)", x.forgets(-1), BAD);
        Check.due("9: forgets(LOW)", x.forgets(LOW), BAD);
    }

    // Promise 10
    private static void gives() {
        FlowConstants x = Check.read(DIAMOND, 6);
        Check.asked("10: gives(1, 4)", x, x.gives(1, 4), 1, 0);
        Check.asked("10: gives(1, -8)", x, x.gives(1, -8), 1, 4);
        Check.asked("10: gives(1, -8) again", x, x.gives(1, -8), 1, -8);
        Check.due("10: may be undone", x.count(11), 3);
        Check.due("10: not known by that", x.name(1, 5), 0);
        Check.due("10: nor found by that", x.name(1, 6), ANY);
        Check.asked("10: a number", x, x.gives(0, 4), BAD, -8);
        Check.asked("10: a join", x, x.gives(4, 4), BAD, -8);
        Check.asked("10: no name", x, x.gives(6, 4), BAD, -8);
        Check.asked("10: gives(-1, 4)", x, x.gives(-1, 4), BAD, -8);
        Check.asked("10: gives(HIGH, 4)", x, x.gives(HIGH, 4), BAD, -8);
        x.knows(1, 0);
        Check.asked("10: a known one", x, x.gives(1, 6), 1, -8);
        Check.asked("10: run() takes it as known", x, x.run(), 0, 7);
        Check.asked("10: what it was given as", x, x.gives(1, 5), 1, 6);
    }

    // Promise 11
    private static void patches() {
        FlowConstants x = Check.read(DIAMOND, 6);
        Check.due("11: it is so", x.patches(0, 5), STATE);
        Check.due("11: patches(0, 999)", x.patches(0, 999), 5);
        Check.asked("11: found(0)", x, x.found(0), 1, 999);
        Check.due("11: patches(0, 0)", x.patches(0, 0), 999);
        Check.asked("11: run()", x, x.run(), 0, 2);
        Check.due("11: as told", x.patches(0, 5), 0);
        Check.due("11: patches(0, 1000)", x.patches(0, 1000), BAD);
        Check.due("11: patches(0, -1)", x.patches(0, -1), BAD);
        Check.due("11: patches(0, LOW)", x.patches(0, LOW), BAD);
        Check.due("11: an input", x.patches(1, 5), BAD);
        Check.due("11: a join", x.patches(4, 5), BAD);
        Check.due("11: an operation", x.patches(5, 5), BAD);
        Check.due("11: no name", x.patches(6, 5), BAD);
        Check.due("11: patches(-1, 5)", x.patches(-1, 5), BAD);
        Check.due("11: may be undone", x.count(11), 3);
        Check.due("11: in one branch", x.patches(2, 2), 1);
        Check.asked("11: both branches agree", x, x.found(5), 1, 7);
    }

    // Promise 12
    private static void turned() {
        FlowConstants x = Check.read("b;k1;q0 1 2;b;g2;b;z0;", 1);
        Check.due("12: live at first", x.count(3), 3);
        Check.due("12: turned(0)", x.turned(0), 2);
        Check.due("12: goes to, if not 0", x.block(0, 4), 2);
        Check.due("12: goes to, if 0", x.block(0, 5), 1);
        Check.due("12: that edge is live", x.block(0, 6), 1);
        Check.due("12: the other one is not", x.block(0, 7), 0);
        Check.due("12: visits(1)", x.visits(1), 0);
        Check.due("12: turned(0) back", x.turned(0), 3);
        Check.due("12: goes to", x.block(0, 4), 1);
        Check.due("12: it goes on", x.turned(1), STATE);
        Check.due("12: it returns", x.turned(2), STATE);
        Check.due("12: no block", x.turned(3), BAD);
        Check.due("12: turned(-1)", x.turned(-1), BAD);
        Check.due("12: turned(LOW)", x.turned(LOW), BAD);
        Check.due("12: may be undone", x.count(11), 2);
        x = Check.read(DIAMOND, 6);
        Check.due("12: both ways are live", x.turned(0), 4);
        Check.asked("12: by 0 to the other one", x, x.run(), 0, 6);
        Check.due("12: the dominators stay", x.block(3, 8), 9);
        x.knows(1, 0);
        Check.asked("12: joins by the live arm", x, x.found(4), 1, 1);
        Check.due("12: edges", x.count(2), 4);
    }

    // Promise 13
    private static void undo() {
        FlowConstants x = Check.read(DIAMOND, 6);
        Check.due("13: none", x.undo(), STATE);
        x.knows(1, 3);
        x.knows(1, 4);
        x.forgets(1);
        x.gives(1, 5);
        x.gives(1, 6);
        x.patches(0, 7);
        x.patches(0, 8);
        x.turned(0);
        Check.due("13: turned", x.undo(), 7);
        Check.due("13: where it goes", x.block(0, 4), 1);
        Check.due("13: patched", x.undo(), 6);
        Check.asked("13: found(0)", x, x.found(0), 1, 7);
        Check.due("13: patched", x.undo(), 5);
        Check.asked("13: found(0)", x, x.found(0), 1, 5);
        Check.due("13: given", x.undo(), 4);
        Check.asked("13: last(1)", x, x.last(1), 1, 5);
        Check.due("13: given", x.undo(), 3);
        Check.asked("13: last(1)", x, x.last(1), 1, 0);
        Check.due("13: not known any more", x.undo(), 2);
        Check.due("13: name(1, 5)", x.name(1, 5), 1);
        Check.asked("13: found(1)", x, x.found(1), 1, 4);
        Check.due("13: known", x.undo(), 1);
        Check.asked("13: found(1)", x, x.found(1), 1, 3);
        Check.due("13: known", x.undo(), 0);
        Check.due("13: name(1, 5)", x.name(1, 5), 0);
        Check.asked("13: none is left", x, x.undo(), STATE, 3);
        Check.due("13: names that are one", x.count(5), 3);
        x.patches(0, 9);
        Check.due("13: anew", x.count(11), 1);
        Check.due("13: undo()", x.undo(), 0);
    }

    private static void undoForgetsTheOldest() {
        FlowConstants x = Check.read(DIAMOND, 6);
        for (int v = 1; v <= 12; v++) {
            x.gives(1, v);
            Check.due("13: may be undone", x.count(11), Math.min(v, 10));
        }
        for (int more = 9; more >= 0; more--) {
            Check.due("13: undo()", x.undo(), more);
            Check.asked("13: last(1)", x, x.last(1), 1, more + 2);
        }
        Check.due("13: older ones are lost", x.undo(), STATE);
        Check.asked("13: so it stays", x, x.last(1), 1, 2);
        x.patches(0, 1);
        for (int v = 0; v < 10; v++) {
            x.turned(0);
        }
        for (int v = 0; v < 10; v++) {
            x.undo();
        }
        Check.asked("13: of deeds unlike one another, too", x, x.found(0), 1, 1);
    }

    // Promise 14
    private static void run() {
        FlowConstants x = Check.read(DIAMOND, 6);
        Check.asked("14: returns", x, x.run(), 0, 7);
        x.gives(1, -1);
        Check.asked("14: returns", x, x.run(), 0, 6);
        x = Check.read(TRAP, 6);
        Check.asked("14: traps", x, x.run(), 1, 3);
        x.patches(1, 2);
        Check.asked("14: traps by %", x, x.run(), 1, 4);
        x.gives(2, 3);
        x.gives(0, 8);
        Check.asked("14: returns", x, x.run(), 0, 8);
        x.gives(0, 1);
        Check.asked("14: returns", x, x.run(), 0, 1);
        x = Check.read(LOOP, 6);
        Check.asked("14: a loop", x, x.run(), 0, 9);
        x.patches(1, 0);
        Check.asked("14: endless", x, x.run(), 2, 0);
        Check.due("14: nothing can be undone of it", x.count(11), 1);
        x = Check.read("b;i;o0/0;z0;", 2);
        Check.asked("14: traps at 1", x, x.run(), 1, 1);
        x = Check.read("b;k0;z0;", 1);
        Check.asked("14: returns 0", x, x.run(), 0, 0);
    }

    private static void runOfSixtyBlocks() {
        FlowConstants x = Check.read("b;k0;k1;k28;g1;b;j0 0 2 5;o3<2;q4 2 3;b;o3+1;g1;b;g4;b;z3;", 6);
        Check.asked("14: the sixtieth block returns", x, x.run(), 0, 28);
        Check.due("15: visits(1)", x.visits(1), 29);
        Check.due("15: visits(4)", x.visits(4), 1);
        x.patches(2, 29);
        Check.asked("14: it would be the sixty-second", x, x.run(), 2, 0);
        Check.due("15: visits(4)", x.visits(4), 0);
        x = Check.read("b;k0;k1;k28;g1;b;j0 0 2 5;o3<2;q4 2 3;b;o3+1;g1;b;g4;b;o1/0;z3;", 7);
        Check.asked("14: the sixtieth block traps", x, x.run(), 1, 6);
        x = Check.read("b;k0;k1;k29;g1;b;j0 0 2 5;o3<2;q4 2 3;b;o3+1;g1;b;z3;", 6);
        Check.asked("14: the sixty-first would return", x, x.run(), 2, 0);
        Check.due("15: visits(3)", x.visits(3), 0);
        x.patches(2, 28);
        Check.asked("14: the fifty-ninth returns", x, x.run(), 0, 28);
    }

    private static void joinsAtOnce() {
        String swaps = "b;k1;k2;k0;g1;b;j0 0 1 4;j0 1 1 3;j0 2 1 7;k1;o5+6;k3;o7<8;q9 1 2;b;z3;";
        FlowConstants x = Check.read(swaps, 10);
        Check.asked("14: swapped twice", x, x.run(), 0, 1);
        Check.asked("16: the other one", x, x.last(4), 1, 2);
        x.patches(8, 2);
        Check.asked("14: swapped once", x, x.run(), 0, 2);
        Check.asked("16: the other one", x, x.last(4), 1, 1);
    }

    // Promise 15
    private static void visits() {
        FlowConstants x = Check.read(LOOP, 6);
        Check.due("15: visits(0)", x.visits(0), 1);
        Check.due("15: visits(1)", x.visits(1), 10);
        Check.due("15: visits(2)", x.visits(2), 9);
        Check.due("15: visits(3)", x.visits(3), 1);
        Check.due("15: visits(4)", x.visits(4), BAD);
        Check.due("15: visits(-1)", x.visits(-1), BAD);
        Check.due("15: visits(HIGH)", x.visits(HIGH), BAD);
        x.patches(2, 999);
        Check.due("15: endless, visits(1)", x.visits(1), 30);
        Check.due("15: endless, visits(2)", x.visits(2), 29);
        x = Check.read("b;k2;k1;g1;b;j0 0 1 4;o0/2;o2-1;q1 1 2;b;z3;", 5);
        Check.due("15: it traps there", x.visits(1), 3);
        Check.due("15: never come to", x.visits(2), 0);
    }

    // Promise 16
    private static void last() {
        FlowConstants x = Check.read(DIAMOND, 6);
        Check.asked("16: last(0)", x, x.last(0), 1, 5);
        Check.asked("16: never made", x, x.last(2), 1, 0);
        Check.asked("16: last(3)", x, x.last(3), 1, 2);
        Check.asked("16: last(5)", x, x.last(5), 1, 7);
        Check.asked("16: last(6)", x, x.last(6), BAD, 7);
        Check.asked("16: last(-1)", x, x.last(-1), BAD, 7);
        Check.asked("16: last(LOW)", x, x.last(LOW), BAD, 7);
        x = Check.read("b;k2;k1;g1;b;j0 0 1 4;o0/2;o2-1;q1 1 2;b;z3;", 5);
        Check.asked("16: the join ahead of a trap", x, x.last(2), 1, 0);
        Check.asked("16: what traps stays as it was", x, x.last(3), 1, 2);
        Check.asked("16: behind a trap", x, x.last(4), 1, 0);
        x = Check.read(LOOP, 6);
        x.patches(2, 999);
        Check.asked("16: endless, last(3)", x, x.last(3), 1, 29);
        Check.asked("16: endless, last(4)", x, x.last(4), 1, 1);
        Check.asked("16: endless, last(5)", x, x.last(5), 1, 29);
    }

    /** RUN is a term of the document: visits() and last() don't wait for run(). */
    private static void runIsOfNow() {
        FlowConstants x = Check.read(DIAMOND, 6);
        Check.due("15: before run()", x.visits(0), 1);
        x.run();
        Check.due("15: visits(2)", x.visits(2), 1);
        x.gives(1, 1);
        Check.due("15: visits(2) as it is given now", x.visits(2), 0);
        Check.asked("16: last(4) as it is given now", x, x.last(4), 1, 1);
        x.undo();
        Check.due("15: visits(2) undone", x.visits(2), 1);
    }

    // Promise 17
    private static void count() {
        FlowConstants x = Check.read(TOGETHER, 7);
        Check.type(x, "bb");
        x.gives(2, 1);
        int[] due = {7, 6, 7, 5, 5, 5, 1, 3, 1, 1, 3, 1, 2};
        for (int what = 0; what < due.length; what++) {
            Check.due("17: count(" + what + ")", x.count(what), due[what]);
        }
        Check.due("17: count(13)", x.count(13), BAD);
        Check.due("17: count(-1)", x.count(-1), BAD);
        Check.due("17: count(HIGH)", x.count(HIGH), BAD);
        Check.due("17: count(LOW)", x.count(LOW), BAD);
        x.knows(2, 0);
        Check.due("17: folds, a known input too", x.count(7), 4);
        Check.due("17: folds of ends", x.count(8), 2);
        Check.due("17: stays", x.count(9), 0);
        Check.due("17: live edges", x.count(4), 4);
        x = Check.read("b;i;q0 1 2;b;i;z1;b;z0;", 2);
        x.knows(0, 0);
        // 1 is NEVER, and ANY if PLAIN.
        Check.due("17: gain of what is never", x.count(10), 1);
        Check.due("17: never", x.count(6), 1);
        Check.due("17: a dead name does not stay", x.count(9), 0);
        x.knows(1, 3);
        Check.due("17: no gain", x.count(10), 0);
        x = Check.read("b;g2;b;i;z0;b;k0;q1 1 2;", 2);
        Check.due("17: gain of NAME 0, no part of BLOCK 0", x.count(10), 1);
    }

    // Promise 18
    private static void best() {
        FlowConstants x = Check.read(DIAMOND, 6);
        Check.due("18: best(0)", x.best(0), 1);
        Check.due("18: best(1)", x.best(1), 3);
        Check.due("18: nothing is known by that", x.name(1, 5), 0);
        Check.due("18: nothing can be undone by that", x.count(11), 0);
        Check.due("18: nothing is found by that", x.count(5), 3);
        Check.due("18: best(2)", x.best(2), BAD);
        Check.due("18: best(-1)", x.best(-1), BAD);
        Check.due("18: best(LOW)", x.best(LOW), BAD);
        x.knows(1, 0);
        Check.due("18: all are known", x.best(0), NONE);
        Check.due("18: all are known", x.best(1), NONE);
        Check.due("18: bad all the same", x.best(2), BAD);
        Check.due("18: there is none", Check.read(LOOP, 6).best(0), NONE);
        x = Check.read("b;i;i;o0+1;z2;", 3);
        Check.due("18: the lowest of several", x.best(0), 0);
        Check.due("18: how many more", x.best(1), 1);
        x.knows(0, 4);
        Check.due("18: the other one", x.best(0), 1);
        Check.due("18: how many more", x.best(1), 2);
        x = Check.read("b;i;i;o1+1;z2;", 3);
        Check.due("18: a later one", x.best(0), 1);
        Check.due("18: how many more", x.best(1), 2);
        // By 0 BLOCK 1 is dead, and its NAMES are NEVER.
        x = Check.read("b;i;q0 1 2;b;i;o1*1;z2;b;z0;", 3);
        Check.due("18: as given, 0", x.best(0), 0);
        Check.due("18: how many more", x.best(1), 3);
        x.gives(0, 1);
        Check.due("18: as given, 1", x.best(0), 1);
        Check.due("18: how many more", x.best(1), 2);
        x = Check.read("b;k0;q0 1 2;b;i;z1;b;z0;", 2);
        Check.due("18: of no use", x.best(0), 1);
        Check.due("18: how many more", x.best(1), 0);
    }

    // Promise 19
    private static void keep() {
        FlowConstants x = Check.read(DIAMOND, 6);
        Check.due("19: keep(2)", x.keep(2), BAD);
        Check.due("19: keep(-1)", x.keep(-1), BAD);
        Check.due("19: keep(LOW)", x.keep(LOW), BAD);
        x.patches(0, 1);
        Check.due("19: keep(0)", x.keep(0), 6);
        Check.due("19: what can be undone stays", x.count(11), 1);
        x.patches(0, 2);
        Check.due("19: keep(1)", x.keep(1), 6);
        x.patches(0, 3);
        Check.due("19: keep(1) anew", x.keep(1), 6);
        Check.due("19: back(0)", x.back(0), 6);
        Check.asked("19: of image 0", x, x.found(0), 1, 1);
        Check.due("19: back(1)", x.back(1), 6);
        Check.asked("19: of image 1", x, x.found(0), 1, 3);
    }

    // Promise 20
    private static void back() {
        FlowConstants x = Check.read(DIAMOND, 6);
        Check.due("20: none was kept", x.back(0), STATE);
        Check.due("20: back(2)", x.back(2), BAD);
        Check.due("20: back(-1)", x.back(-1), BAD);
        x.knows(1, 3);
        x.gives(1, 4);
        x.patches(2, 5);
        x.turned(0);
        x.keep(1);
        Check.due("20: none was kept there", x.back(0), STATE);
        Check.due("20: refused, nothing is lost", x.count(11), 4);
        x.forgets(1);
        x.gives(1, 6);
        x.patches(2, 7);
        x.turned(0);
        Check.due("20: back(1)", x.back(1), 6);
        Check.due("20: known", x.name(1, 5), 1);
        Check.asked("20: known as", x, x.found(1), 1, 3);
        Check.due("20: goes to", x.block(0, 4), 2);
        Check.asked("20: given as", x, x.gives(1, 0), 1, 4);
        Check.due("20: only that can be undone", x.undo(), 0);
        Check.due("20: patched", x.patches(2, 9), 5);
        Check.due("20: back(1) again", x.back(1), 6);
        Check.due("20: nothing can be undone", x.undo(), STATE);
        Check.due("20: patched again", x.patches(2, 9), 5);
        x.forgets(1);
        x.turned(0);
        Check.asked("20: run() behind it", x, x.run(), 0, 14);
    }

    // Promise 21
    private static void asked() {
        FlowConstants x = Check.read(DIAMOND, 6);
        Check.due("21: before", x.asked(), 0);
        x.found(0);
        Check.due("21: found", x.asked(), 5);
        Check.due("21: found, again", x.asked(), 5);
        x.gives(1, 8);
        Check.due("21: gives", x.asked(), 0);
        x.run();
        Check.due("21: run", x.asked(), 6);
        x.last(1);
        Check.due("21: last", x.asked(), 8);
        x.found(1);
        x.found(9);
        x.gives(0, 1);
        x.last(9);
        Check.due("21: refused ones", x.asked(), 8);
        x.knows(1, 2);
        x.patches(0, 3);
        x.turned(0);
        x.undo();
        x.keep(0);
        x.back(0);
        x.forgets(1);
        x.best(0);
        x.visits(0);
        x.count(5);
        x.name(0, 0);
        x.block(0, 0);
        x.clear();
        x.program();
        Check.due("21: others tell nothing", x.asked(), 8);
        Check.type(x, LOOP);
        x.program();
        Check.due("21: nor does one read anew", x.asked(), 8);
        x.patches(1, 0);
        x.run();
        Check.due("21: an endless run", x.asked(), 0);
    }
}
