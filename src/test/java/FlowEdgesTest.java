/**
 * 'Terms', part 2 and the folds of part 3: each sentence on ints, what is FOUND
 * and how a RUN goes, with the numbers at which it turns.
 */
public final class FlowEdgesTest {
    private static final int STATE = -2, NEVER = 0, ONE = 1, ANY = 2;
    private static final int LOW = Integer.MIN_VALUE, HIGH = Integer.MAX_VALUE;
    private static final int[] SOME = {LOW, LOW + 1, -1000, -2, -1, 0, 1, 2, 1000, HIGH - 1, HIGH};

    /** An INPUT (1) chooses between 1 and 2, which are joined (4), 5 more is returned (5). */
    private static final String DIAMOND = "b;k5;i;q1 1 2;b;k1;g3;b;k2;g3;b;j1 2 2 3;o4+0;z5;";

    /** A choice by a number (0): BLOCK 2 is dead, the join (3) folds to 1. */
    private static final String DEAD = "b;k7;q0 1 2;b;k1;g3;b;k2;g3;b;j1 1 2 2;o3+0;z4;";

    /** Counts from 0 (0) by 1 (1) up to 9 (2); 3 is the counter. */
    private static final String LOOP = "b;k0;k1;k9;g1;b;j0 0 2 5;o3<2;q4 2 3;b;o3+1;g1;b;z3;";

    private FlowEdgesTest() {
    }

    public static void main(String[] args) {
        intsOf32Bits();
        intsOfNumbersAlone();
        divisions();
        trapsByZero();
        comparisons();
        inputsAtFirst();
        foundAtFirst();
        asLongAsValuesChange();
        asLongAsEdgesChange();
        edgesOfLiveBlocks();
        edgesByName();
        liveBlocks();
        numbersAndInputs();
        operations();
        joinsOfTwo();
        joinsOfThree();
        joinsAlongLiveEdges();
        neverBack();
        plain();
        joinsAtOnce();
        inputsOfRuns();
        sixtyBlocks();
        sixtyBlocksAndTraps();
        outcomes();
        folds();
        stays();
        gain();
        Check.end("FlowEdgesTest");
    }

    private static void intsOf32Bits() {
        Check.says("Ints are of 32 bits");
        makes(HIGH, '+', 1, LOW);
        makes(HIGH - 1, '+', 1, HIGH);
        makes(LOW, '+', -1, HIGH);
        makes(LOW, '+', LOW, 0);
        makes(HIGH, '+', HIGH, -2);
        makes(LOW, '-', 1, HIGH);
        makes(LOW + 1, '-', 1, LOW);
        makes(HIGH, '-', -1, LOW);
        makes(0, '-', LOW, LOW);
        makes(-1, '-', LOW, HIGH);
        makes(46340, '*', 46340, 2147395600);
        makes(46341, '*', 46341, -2147479015);
        makes(65536, '*', 32768, LOW);
        makes(65536, '*', 65536, 0);
        makes(LOW, '*', -1, LOW);
        makes(HIGH, '*', HIGH, 1);
        makes(HIGH, '*', 2, -2);
        makes(LOW, '&', HIGH, 0);
        makes(LOW, '&', -1, LOW);
        makes(LOW, '^', HIGH, -1);
        makes(LOW, '^', -1, HIGH);
        makes(-1, '^', -1, 0);
    }

    /** FOUND and RUN make the same of two numbers. */
    private static void makes(int x, char sign, int y, int due) {
        FlowConstants c = Check.read("b;i;i;o0" + sign + "1;z2;", 3);
        c.gives(0, x);
        c.gives(1, y);
        Check.asked("run() of " + x + sign + y, c, c.run(), 0, due);
        c.knows(0, x);
        c.knows(1, y);
        Check.asked("found(2) of " + x + sign + y, c, c.found(2), 1, due);
        Check.asked("run(), known, of " + x + sign + y, c, c.run(), 0, due);
    }

    private static void intsOfNumbersAlone() {
        FlowConstants x = Check.read("b;k999;o0*0;o1*1;o2*2;z3;", 4);
        Check.asked("999 * 999", x, x.found(1), 1, 998001);
        Check.asked("to the fourth", x, x.found(2), 1, (int) 996005996001L);
        int fourth = (int) 996005996001L;
        Check.asked("to the eighth", x, x.run(), 0, (int) ((long) fourth * fourth));
    }

    private static void divisions() {
        Check.says("/ and % as in Java");
        makes(7, '/', 2, 3);
        makes(-7, '/', 2, -3);
        makes(7, '/', -2, -3);
        makes(-7, '/', -2, 3);
        makes(0, '/', 5, 0);
        makes(LOW, '/', -1, LOW);
        makes(LOW, '/', 1, LOW);
        makes(LOW, '/', LOW, 1);
        makes(HIGH, '/', LOW, 0);
        makes(HIGH, '/', -1, -HIGH);
        makes(7, '%', 2, 1);
        makes(-7, '%', 2, -1);
        makes(7, '%', -2, 1);
        makes(-7, '%', -2, -1);
        makes(0, '%', 5, 0);
        makes(LOW, '%', -1, 0);
        makes(LOW, '%', HIGH, -1);
        makes(HIGH, '%', LOW, HIGH);
        makes(HIGH, '%', HIGH, 0);
    }

    private static void trapsByZero() {
        Check.says("by 0 they TRAP");
        for (int x : SOME) {
            for (char sign : new char[] {'/', '%'}) {
                FlowConstants c = Check.read("b;i;i;o0" + sign + "1;z2;", 3);
                c.gives(0, x);
                Check.asked("run() by 0", c, c.run(), 1, 2);
                c.knows(0, x);
                Check.due("knows(1, 0)", c.knows(1, 0), 2);
                Check.due("name(2, 6)", c.name(2, 6), ANY);
                Check.due("name(2, 7)", c.name(2, 7), ANY);
                Check.due("found(2)", c.found(2), STATE);
                Check.asked("run() by 0, known", c, c.run(), 1, 2);
                Check.due("knows(1, 1)", c.knows(1, 1), 3);
                Check.asked("run() by 1", c, c.run(), 0, sign == '/' ? x : 0);
                Check.due("knows(1, -1)", c.knows(1, -1), 3);
                Check.asked("run() by -1", c, c.run(), 0, sign == '/' ? -x : 0);
            }
            for (char sign : "+-*&^<=".toCharArray()) {
                FlowConstants c = Check.read("b;i;i;o0" + sign + "1;z2;", 3);
                c.gives(0, x);
                Check.due("no other sign traps", c.run(), 0);
            }
        }
    }

    private static void comparisons() {
        Check.says("< and = make 1 or 0");
        for (int i = 0; i < SOME.length; i++) {
            for (int j = 0; j < SOME.length; j++) {
                makes(SOME[i], '<', SOME[j], i < j ? 1 : 0);
                makes(SOME[i], '=', SOME[j], i == j ? 1 : 0);
            }
        }
    }

    private static void inputsAtFirst() {
        Check.says("INPUTS are not KNOWN, and GIVEN as 0, at first");
        FlowConstants x = Check.read("b;" + "i;".repeat(24) + "z23;", 24);
        for (int n = 0; n < 24; n++) {
            Check.due("name(" + n + ", 5)", x.name(n, 5), 0);
            Check.due("name(" + n + ", 6)", x.name(n, 6), ANY);
            Check.asked("last(" + n + ")", x, x.last(n), 1, 0);
            Check.due("forgets(" + n + ")", x.forgets(n), STATE);
            Check.asked("gives(" + n + ", 7)", x, x.gives(n, 7), 1, 0);
        }
        Check.asked("run()", x, x.run(), 0, 7);
    }

    private static void foundAtFirst() {
        Check.says("at first no NAME has a value (NEVER), no EDGE is LIVE, BLOCK 0 alone is");
        FlowConstants x = Check.read("b;i;z0;b;i;k3;g2;b;j1 1;o1+0;g1;", 5);
        x.knows(0, 1);
        x.knows(1, 1);
        for (int n = 1; n <= 4; n++) {
            Check.due("name(" + n + ", 6)", x.name(n, 6), NEVER);
            Check.due("name(" + n + ", 7)", x.name(n, 7), NEVER);
        }
        Check.due("live blocks", x.count(3), 1);
        Check.due("live edges", x.count(4), 0);
        Check.due("never", x.count(6), 4);
        Check.due("block(0, 0)", x.block(0, 0), 1);
        Check.due("block(1, 0)", x.block(1, 0), 0);
        Check.due("block(1, 6)", x.block(1, 6), 0);
        x = Check.read("b;g1;b;g1;", 0);
        Check.due("without names, live blocks", x.count(3), 2);
        Check.due("without names, live edges", x.count(4), 2);
    }

    /** 6 is unlike at last, then 5, which is made of it, 4, 3: each a round behind, against the text. */
    private static void asLongAsValuesChange() {
        Check.says("As long as something changes");
        String loop = "b;k0;k1;i;g1;b;j0 0 1 4;j0 0 1 5;j1 6 0 0;j1 1 0 0;";
        String[] others = {"", "k5;", "i;", "o0+0;", "k5;i;o0+1;"};
        int[] names = {7, 8, 8, 8, 10};
        for (int i = 0; i < others.length; i++) {
            FlowConstants x = Check.read(loop + others[i] + "q2 1 2;b;z3;", names[i]);
            for (int n = 3; n <= 6; n++) {
                Check.due("name(" + n + ", 6) behind " + others[i], x.name(n, 6), ANY);
                Check.due("name(" + n + ", 7) behind " + others[i], x.name(n, 7), ANY);
            }
            x.patches(1, 0);
            for (int n = 3; n <= 6; n++) {
                Check.asked("all alike: found(" + n + ")", x, x.found(n), 1, 0);
            }
        }
        FlowConstants x = Check.read("b;k0;k1;i;g1;b;j0 0 1 4;j0 0 1 1;j0 0 1 0;q2 1 2;b;z3;", 6);
        Check.due("a join that stays is told behind", x.name(3, 6), ANY);
        Check.asked("that join", x, x.found(5), 1, 0);
        longestChange();
    }

    /** As many joins as there may be, each made of the next one. */
    private static void longestChange() {
        StringBuilder text = new StringBuilder("b;k0;i;g1;b;");
        for (int n = 2; n < 12; n++) {
            text.append("j0 0 1 ").append(n + 1).append(';');
        }
        FlowConstants x = Check.read(text + "j0 0 1 1;q1 1 2;b;z2;", 13);
        for (int n = 2; n <= 12; n++) {
            Check.due("name(" + n + ", 6)", x.name(n, 6), ANY);
        }
        x.knows(1, 0);
        for (int n = 2; n <= 12; n++) {
            Check.asked("not come to again: found(" + n + ")", x, x.found(n), 1, 0);
        }
    }

    private static void asLongAsEdgesChange() {
        FlowConstants x = Check.read("b;g7;b;g1;b;g1;b;g2;b;g3;b;g4;b;g5;b;g6;", 0);
        Check.due("against the text: live blocks", x.count(3), 8);
        Check.due("against the text: live edges", x.count(4), 8);
        x = Check.read("b;i;g7;b;z0;b;q0 1 2;b;q0 2 3;b;q0 3 4;b;q0 4 5;b;q0 5 6;b;q0 6 7;", 1);
        Check.due("by a name: live blocks", x.count(3), 8);
        Check.due("by a name: live edges", x.count(4), 13);
        x.knows(0, 1);
        Check.due("all the way: live blocks", x.count(3), 8);
        Check.due("all the way: live edges", x.count(4), 7);
        x.knows(0, 0);
        Check.due("around the last: live blocks", x.count(3), 2);
        Check.due("around the last: live edges", x.count(4), 2);
    }

    private static void edgesOfLiveBlocks() {
        Check.says("an EDGE is LIVE, if its BLOCK is, and its END goes there");
        FlowConstants x = Check.read(DEAD, 5);
        Check.due("of a live one", x.block(1, 6), 1);
        Check.due("of a dead one", x.block(2, 6), 0);
        Check.due("none", x.block(1, 7), 0);
        Check.due("of a return", x.block(3, 6), 0);
        x = Check.read("b;k0;q0 1 2;b;q0 2 3;b;z0;b;z0;", 1);
        Check.due("by a name, of a dead one", x.block(1, 6), 0);
        Check.due("by a name, of a dead one", x.block(1, 7), 0);
    }

    private static void edgesByName() {
        Check.says("by a NAME: if that is ANY, or one number by which it goes there; (it is not 0)");
        FlowConstants x = Check.read(DIAMOND, 6);
        Check.due("any, one way", x.block(0, 6), 1);
        Check.due("any, the other way", x.block(0, 7), 1);
        for (int v : SOME) {
            x.knows(1, v);
            Check.due("not 0: " + v, x.block(0, 6), v != 0 ? 1 : 0);
            Check.due("0: " + v, x.block(0, 7), v == 0 ? 1 : 0);
            Check.due("visits(1) by " + v, x.visits(1), v != 0 ? 1 : 0);
            Check.due("visits(2) by " + v, x.visits(2), v == 0 ? 1 : 0);
        }
    }

    private static void liveBlocks() {
        Check.says("A BLOCK is LIVE, if an EDGE to it is");
        FlowConstants x = Check.read(DIAMOND, 6);
        Check.due("by two edges", x.count(3), 4);
        x.knows(1, 1);
        Check.due("by one of two edges", x.block(3, 0), 1);
        Check.due("by none", x.block(2, 0), 0);
        x = Check.read("b;k1;q0 1 2;b;z0;b;g3;b;g4;b;g2;", 1);
        Check.due("by edges of dead ones alone", x.count(3), 2);
    }

    private static void numbersAndInputs() {
        Check.says("a NUMBER is that ONE number; an INPUT ONE, if it is KNOWN, else ANY");
        FlowConstants x = Check.read("b;k0;i;q1 1 2;b;k999;i;z3;b;z0;", 4);
        Check.asked("0", x, x.found(0), 1, 0);
        Check.asked("999", x, x.found(2), 1, 999);
        Check.due("not known", x.name(3, 6), ANY);
        for (int v : SOME) {
            x.knows(3, v);
            Check.asked("known as " + v, x, x.found(3), 1, v);
        }
        x.knows(1, 0);
        Check.due("a number of a dead block", x.name(2, 6), NEVER);
        Check.due("a known input of a dead block", x.name(3, 6), NEVER);
        Check.due("found(3)", x.found(3), STATE);
        x.forgets(3);
        Check.due("an input of a dead block", x.name(3, 6), NEVER);
    }

    /** 0, 1 are INPUTS, 2 is what is made of them. */
    private static void operations() {
        Check.says("an OPERATION NEVER, if one of its NAMES is, ONE, if both are and it does not TRAP "
            + "(the number), else ANY");
        for (char sign : "+-*/%&^<=".toCharArray()) {
            FlowConstants x = Check.read("b;i;i;o0" + sign + "1;z2;", 3);
            Check.due("any, any " + sign, x.name(2, 6), ANY);
            x.knows(0, 0);
            Check.due("one, any " + sign, x.name(2, 6), ANY);
            x.knows(1, 1);
            Check.due("one, one " + sign, x.name(2, 6), ONE);
            x.forgets(0);
            Check.due("any, one " + sign, x.name(2, 6), ANY);
            x.knows(0, 0);
            x.knows(1, 0);
            Check.due("one, 0 " + sign, x.name(2, 6), sign == '/' || sign == '%' ? ANY : ONE);
            x = Check.read("b;i;o0" + sign + "0;z1;", 2);
            Check.due("of itself " + sign, x.name(1, 6), ANY);
        }
        FlowConstants x = Check.read("b;k0;q0 1 2;b;i;o1+0;o0+0;z2;b;z0;", 4);
        x.knows(1, 1);
        Check.due("of a name that is never", x.name(2, 6), NEVER);
        Check.due("of ones, in a dead block", x.name(3, 6), NEVER);
        Check.due("if plain", x.name(2, 7), ONE);
    }

    private static void joinsOfTwo() {
        Check.says("a JOIN by its arms along LIVE EDGES, those NEVER left out: NEVER, if there is none, "
            + "ONE, if all are that same one, else ANY");
        FlowConstants x = Check.read("b;i;i;q0 1 2;b;k3;g3;b;k3;g3;b;j1 2 2 3;j1 1 2 1;j1 1 2 3;z4;", 7);
        Check.asked("the same number", x, x.found(4), 1, 3);
        Check.due("the same any", x.name(5, 6), ANY);
        Check.due("any, one", x.name(6, 6), ANY);
        x.knows(1, 3);
        Check.asked("the same known one", x, x.found(5), 1, 3);
        Check.asked("known, and a number", x, x.found(6), 1, 3);
        x.knows(1, LOW);
        Check.asked("the lowest", x, x.found(5), 1, LOW);
        Check.due("unlike ones", x.name(6, 6), ANY);
        x.patches(3, 4);
        Check.due("numbers unlike by 1", x.name(4, 6), ANY);
        x.knows(0, 0);
        Check.asked("the arm that is left", x, x.found(4), 1, 4);
        x.knows(0, 1);
        Check.asked("the other arm", x, x.found(4), 1, 3);
        x = Check.read("b;k1;q0 1 2;b;z0;b;i;g3;b;j2 1;g4;b;j3 2;z3;", 4);
        Check.due("no live edge", x.name(2, 6), NEVER);
        Check.due("nor here", x.name(3, 6), NEVER);
        x.patches(0, 0);
        Check.due("one arm, any", x.name(2, 6), ANY);
        x.knows(1, 8);
        Check.asked("one arm, one", x, x.found(3), 1, 8);
    }

    /** 2, 3, 4 come by BLOCKS 2, 3, 4 to BLOCK 5, where 5 joins them. */
    private static void joinsOfThree() {
        FlowConstants x = Check.read(
            "b;i;i;q0 1 2;b;q1 3 4;b;k6;g5;b;k6;g5;b;k6;g5;b;j2 2 3 3 4 4;z5;", 6);
        Check.asked("three alike", x, x.found(5), 1, 6);
        for (int n = 2; n <= 4; n++) {
            x.patches(n, 7);
            Check.due("two alike, not " + n, x.name(5, 6), ANY);
            x.undo();
        }
        x.patches(2, 7);
        x.knows(0, 1);
        Check.asked("the third is dead", x, x.found(5), 1, 6);
        x.knows(0, 0);
        Check.asked("the third is left", x, x.found(5), 1, 7);
    }

    /** BLOCK 2 is live, and 3 is made there, but by NUMBER 1 it goes to BLOCK 4. */
    private static void joinsAlongLiveEdges() {
        FlowConstants x = Check.read("b;i;k1;q0 1 2;b;k3;g3;b;k4;q1 4 3;b;j1 2 2 3;z4;b;z0;", 5);
        Check.asked("the arm of a dead edge of a live block", x, x.found(3), 1, 4);
        Check.asked("is left out", x, x.found(4), 1, 3);
        Check.due("if plain, it is not", x.name(4, 7), ANY);
        x.turned(2);
        Check.due("turned: it is not", x.name(4, 6), ANY);
        x.patches(1, 0);
        Check.asked("by 0: it is", x, x.found(4), 1, 3);
        x.turned(2);
        Check.due("turned back, by 0: it is not", x.name(4, 6), ANY);
        x.knows(0, 0);
        Check.asked("it alone is left", x, x.found(4), 1, 4);
    }

    private static void neverBack() {
        Check.says("(Values go from NEVER by ONE to ANY, never back.)");
        FlowConstants x = Check.read(LOOP, 6);
        Check.due("a counter is any", x.name(3, 6), ANY);
        Check.due("so is its end", x.name(4, 6), ANY);
        Check.due("all are live", x.count(3), 4);
        x.patches(1, 0);
        Check.asked("what is counted by 0", x, x.found(3), 1, 0);
        Check.asked("its end", x, x.found(4), 1, 1);
        Check.due("behind the loop nothing is live", x.block(3, 0), 0);
        x.patches(2, 0);
        Check.asked("out of the loop at once", x, x.found(4), 1, 0);
        Check.due("in the loop nothing is live", x.block(2, 0), 0);
        Check.due("nor has it a value", x.name(5, 6), NEVER);
    }

    private static void plain() {
        Check.says("PLAIN: the same, but all EDGES are LIVE whose BLOCK is");
        FlowConstants x = Check.read(DEAD, 5);
        int[] found = {ONE, ONE, NEVER, ONE, ONE};
        int[] plain = {ONE, ONE, ONE, ANY, ANY};
        for (int n = 0; n < found.length; n++) {
            Check.due("name(" + n + ", 6)", x.name(n, 6), found[n]);
            Check.due("name(" + n + ", 7)", x.name(n, 7), plain[n]);
        }
        x = Check.read("b;k1;z0;b;k2;g2;b;k3;z2;", 3);
        Check.due("not live, though its edge is there", x.name(2, 7), NEVER);
        x = Check.read("b;i;k0;o0/1;q2 1 2;b;k4;z3;b;k5;z4;", 5);
        Check.due("behind a trap", x.name(3, 7), ONE);
        Check.due("what traps", x.name(2, 7), ANY);
    }

    private static void joinsAtOnce() {
        Check.says("JOINS take what their arm was as the BLOCK was come to (all at once), then others "
            + "one behind the other");
        // 3, 4 change places each time; 5 counts down, 7 is made of the two as they are then.
        FlowConstants x = Check.read(
            "b;k1;k2;i;g1;b;j0 0 1 4;j0 1 1 3;j0 2 1 6;o5-0;o3-4;q6 1 2;b;z3;", 8);
        for (int times = 0; times <= 6; times++) {
            x.gives(2, times + 1);
            boolean swapped = times % 2 == 1;
            Check.asked("run() of " + times, x, x.run(), 0, swapped ? 2 : 1);
            Check.asked("the other one", x, x.last(4), 1, swapped ? 1 : 2);
            Check.asked("what is made of them", x, x.last(7), 1, swapped ? 1 : -1);
            Check.due("visits(1)", x.visits(1), times + 1);
        }
    }

    private static void inputsOfRuns() {
        Check.says("INPUTS as they are GIVEN (KNOWN ones as KNOWN)");
        FlowConstants x = Check.read("b;i;z0;", 1);
        for (int v : SOME) {
            x.gives(0, v);
            Check.asked("given", x, x.run(), 0, v);
        }
        x.knows(0, 5);
        Check.asked("known", x, x.run(), 0, 5);
        x.gives(0, 6);
        Check.asked("known, and given anew", x, x.run(), 0, 5);
        x.forgets(0);
        Check.asked("not known any more", x, x.run(), 0, 6);
    }

    /** BLOCK 0, then BLOCK 1 as often as 0 is given, then 2. */
    private static FlowConstants longRun(String behind, int names, int blocks) {
        FlowConstants x = Check.read("b;i;k1;g1;b;j0 0 1 3;o2-1;q3 1 2;b;" + behind, names);
        x.gives(0, blocks - 2);
        return x;
    }

    private static void sixtyBlocks() {
        Check.says("60 BLOCKS at most");
        for (int blocks = 57; blocks <= 63; blocks++) {
            FlowConstants x = longRun("z1;", 4, blocks);
            boolean ends = blocks <= 60;
            Check.asked("run() of " + blocks, x, x.run(), ends ? 0 : 2, ends ? 1 : 0);
            Check.due("visits(0)", x.visits(0), 1);
            Check.due("visits(1)", x.visits(1), ends ? blocks - 2 : 59);
            Check.due("visits(2)", x.visits(2), ends ? 1 : 0);
            Check.asked("last(3)", x, x.last(3), 1, ends ? 0 : blocks - 61);
        }
        FlowConstants x = Check.read("b;g1;b;g1;", 0);
        Check.asked("without names", x, x.run(), 2, 0);
        Check.due("visits(1)", x.visits(1), 59);
    }

    private static void sixtyBlocksAndTraps() {
        for (int blocks = 58; blocks <= 62; blocks++) {
            FlowConstants x = longRun("o1/3;z1;", 5, blocks);
            boolean ends = blocks <= 60;
            Check.asked("run() of " + blocks + " that traps", x, x.run(), ends ? 1 : 2, ends ? 4 : 0);
            Check.due("visits(2)", x.visits(2), ends ? 1 : 0);
        }
    }

    private static void outcomes() {
        Check.says("It RETURNS a number; or TRAPS at a NAME; or is ENDLESS");
        FlowConstants x = Check.read("b;i;o0/0;z0;", 2);
        Check.asked("the first name that traps", x, x.run(), 1, 1);
        x = Check.read("b;i;o0%0;o0/0;z0;", 3);
        Check.asked("the first of two", x, x.run(), 1, 1);
        Check.asked("behind it nothing is made", x, x.last(2), 1, 0);
        x.gives(0, -5);
        Check.asked("by -5", x, x.run(), 0, -5);
        x = Check.read("b;i;o0/0;g1;b;g1;", 2);
        Check.asked("a trap ahead of an endless loop", x, x.run(), 1, 1);
        x.gives(0, 1);
        Check.asked("an endless loop", x, x.run(), 2, 0);
        x = Check.read("b;" + "k1;".repeat(22) + "i;o0/22;z0;", 24);
        Check.asked("traps at the last name", x, x.run(), 1, 23);
        x = Check.read("b;k0;o0/0;q1 1 2;b;z0;b;z0;", 2);
        Check.asked("ahead of its end", x, x.run(), 1, 1);
        Check.due("both ways are live all the same", x.count(3), 3);
        Check.due("none is come to", x.visits(1) + x.visits(2), 0);
    }

    private static void folds() {
        Check.says("FOLDS: NAMES that are ONE, and no NUMBERS; ENDS by a NAME of LIVE BLOCKS with one LIVE EDGE");
        FlowConstants x = Check.read("b;k1;z0;", 1);
        Check.due("numbers alone", x.count(7), 0);
        x = Check.read("b;k1;i;o0+0;o0/1;g1;b;j0 0;z4;", 5);
        Check.due("an operation, a join", x.count(7), 2);
        x.knows(1, 0);
        Check.due("a known input; what traps does not", x.count(7), 3);
        x.knows(1, 1);
        Check.due("all but the number", x.count(7), 4);
        Check.due("an end that goes on", x.count(8), 0);
        x = Check.read("b;i;q0 1 2;b;q0 2 3;b;z0;b;z0;", 1);
        Check.due("ends with two live edges", x.count(8), 0);
        x.knows(0, 1);
        Check.due("ends of live blocks", x.count(8), 2);
        x.knows(0, 0);
        Check.due("an end of a dead block", x.count(8), 1);
    }

    private static void stays() {
        Check.says("STAYS: NAMES of LIVE BLOCKS that are no FOLDS, and no NUMBERS");
        FlowConstants x = Check.read("b;k1;z0;", 1);
        Check.due("a number", x.count(9), 0);
        x = Check.read("b;i;q0 1 2;b;i;k0;o1+2;z3;b;k0;o0/4;z5;", 6);
        Check.due("two inputs, two operations", x.count(9), 4);
        x.knows(0, 1);
        Check.due("those of a dead block, a known one not", x.count(9), 2);
        x.knows(1, 1);
        Check.due("all folds", x.count(9), 0);
        x.knows(0, 0);
        Check.due("what traps stays", x.count(9), 1);
    }

    private static void gain() {
        Check.says("GAIN: how many NAMES are ONE, or NEVER, that are ANY if PLAIN");
        FlowConstants x = Check.read(DEAD, 5);
        Check.due("two that are one", x.count(10), 2);
        x = Check.read(DIAMOND, 6);
        Check.due("none", x.count(10), 0);
        x.knows(1, 1);
        Check.due("the join and what is made of it", x.count(10), 2);
        x.patches(3, 1);
        Check.due("one if plain, too", x.count(10), 0);
        x = Check.read("b;k0;q0 1 2;b;i;k2;o1+2;z3;b;z0;", 4);
        Check.due("two that are never", x.count(10), 2);
        x.knows(1, 1);
        Check.due("never, and one if plain", x.count(10), 0);
        x = Check.read("b;k0;z0;b;i;z1;", 2);
        Check.due("never, if plain, too", x.count(10), 0);
        // The choice is by NAME 1, of BLOCK 2: that NAME 0 is never is all the gain.
        x = Check.read("b;g2;b;i;z0;b;k0;q1 1 3;b;z1;", 2);
        Check.due("the first name alone", x.count(10), 1);
        x.patches(1, 1);
        Check.due("it is any now", x.count(10), 0);
    }
}
