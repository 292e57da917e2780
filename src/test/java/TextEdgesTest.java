/**
 * 'Terms', part 1: each sentence on what a text may be, just inside its bound,
 * at it, and just beyond it. A bar stands ahead of the token that is the FAULT.
 */
public final class TextEdgesTest {
    private static final String DIAMOND = "b;k5;i;q1 1 2;b;k1;g3;b;k2;g3;b;j1 2 2 3;o4+0;z5;";
    private static final String[] ITEMS = {"k1;", "i;", "o0+0;", "j0 0;", "g1;", "q0 1 2;", "z0;"};
    private static final String[] ENDS = {"g1;", "q0 1 2;", "z0;"};
    private static final String ITEM_LETTERS = "bkiojgqz";
    private static final String SIGNS = "+-*/%&^<=";

    private TextEdgesTest() {
    }

    public static void main(String[] args) {
        blocksAtMost();
        namesAtMost();
        namesAsTold();
        numbers();
        arms();
        bytesAtMost();
        blanks();
        items();
        letters();
        numerals();
        lettersForNumerals();
        signs();
        firstFault();
        noItem();
        blockWithoutEnd();
        aheadAndBehind();
        joinsFirst();
        twentyFifthName();
        fourthArm();
        sameTarget();
        numeralsBeyond();
        byteThatBeginsNone();
        numeralsAbove();
        tooEarly();
        notStrictAtLast();
        edges();
        dominators();
        toldOfAreThere();
        noEdgeToBlock0();
        armsFitEdges();
        madeAhead();
        madeAheadOfArms();
        Check.end("TextEdgesTest");
    }

    private static String times(String part, int times) {
        return part.repeat(times);
    }

    private static void blocksAtMost() {
        Check.says("BLOCKS 0 .. (8 at most)");
        Check.due("count(1)", Check.read("b;i;z0;", 1).count(1), 1);
        Check.due("count(1)", Check.read("b;i;z0;" + times("b;z0;", 6), 1).count(1), 7);
        Check.due("count(1)", Check.read("b;i;z0;" + times("b;z0;", 7), 1).count(1), 8);
        Check.faultAtBar("b;i;z0;" + times("b;z0;", 7) + "|b;z0;");
    }

    private static void namesAtMost() {
        Check.says("some NAMES (24 at most in all");
        Check.read("b;g1;b;g1;", 0);
        Check.read("b;i;z0;", 1);
        Check.read("b;" + times("i;", 23) + "z22;", 23);
        Check.read("b;" + times("i;", 24) + "z23;", 24);
        Check.faultAtBar("b;" + times("i;", 24) + "|i;z23;");
        Check.read("b;" + times("i;", 12) + "g1;b;" + times("i;", 12) + "z23;", 24);
        Check.faultAtBar("b;" + times("i;", 12) + "g1;b;" + times("i;", 12) + "|i;z23;");
        Check.read("b;" + times("i;", 24) + "g1;b;z23;", 24);
        Check.faultAtBar("b;" + times("i;", 24) + "g1;b;|i;z23;");
    }

    private static void namesAsTold() {
        Check.says("0, 1, .. as they are told");
        FlowConstants x = Check.read("b;k7;g2;b;k8;z1;b;k9;k6;g1;", 4);
        int[] homes = {0, 1, 2, 2};
        int[] numbers = {7, 8, 9, 6};
        for (int n = 0; n < homes.length; n++) {
            Check.due("name(" + n + ", 0)", x.name(n, 0), homes[n]);
            Check.asked("found(" + n + ")", x, x.found(n), 1, numbers[n]);
        }
    }

    private static void numbers() {
        Check.says("A NAME is made by a NUMBER (0 .. 999)");
        for (int number : new int[] {0, 1, 9, 10, 99, 100, 998, 999}) {
            FlowConstants x = Check.read("b;k" + number + ";z0;", 1);
            Check.asked("found(0)", x, x.found(0), 1, number);
        }
        Check.faultAtBar("b;k|1000;z0;");
        Check.faultAtBar("b;k|-1;z0;");
    }

    private static void arms() {
        Check.says("a JOIN of 1 to 3 arms, each a BLOCK and a NAME");
        Check.faultAtBar("b;i;g1;b;j|;z0;");
        Check.faultAtBar("b;i;g1;b;j0|;z0;");
        Check.due("name(1, 2)", Check.read("b;i;g1;b;j0 0;z1;", 2).name(1, 2), 1);
        Check.faultAtBar("b;i;q0 1 2;b;g2;b;j0 0 1|;z1;");
        Check.due("name(1, 2)", Check.read("b;i;q0 1 2;b;g2;b;j0 0 1 0;z1;", 2).name(1, 2), 2);
        Check.faultAtBar("b;i;q0 1 2;b;q0 3 4;b;g4;b;g4;b;j1 0 2 0 3|;z1;");
        Check.due("name(1, 2)",
            Check.read("b;i;q0 1 2;b;q0 3 4;b;g4;b;g4;b;j1 0 2 0 3 0;z1;", 2).name(1, 2), 3);
        Check.faultAtBar("b;i;q0 1 2;b;q0 3 5;b;q0 4 5;b;g5;b;g5;b;j1 0 2 0 3 0 |4 0;z1;");
    }

    private static void bytesAtMost() {
        Check.says("They are a text (150 bytes at most)");
        for (int length : new int[] {148, 149, 150}) {
            String gap = times(" ", length - DIAMOND.length());
            Check.read(DIAMOND + gap, 6);
            Check.read(gap + DIAMOND, 6);
        }
        String longest = "b;" + times("k999;", 24) + "z23;" + times("b;z0;", 3) + "b; z   0;";
        Check.due("its length", longest.length(), 150);
        FlowConstants x = Check.type(new FlowConstants(), longest);
        Check.due("type(33) as the text is full", x.type('!'), FlowConstants.FULL);
        Check.due("program()", x.program(), 24);
        Check.asked("found(23)", x, x.found(23), 1, 999);
        Check.fault(DIAMOND + times(" ", 149 - DIAMOND.length()) + "!", 149);
        Check.fault(times(" ", 150), 150);
        Check.fault("b;" + times(" ", 148), 150);
        Check.fault("b;z0;" + times(" ", 145), 150);
        Check.fault(times("b", 150), 0);
        Check.fault(times(";", 150), 0);
        Check.fault("b;k" + times("9", 147), 3);
        Check.fault("b;k" + times("0", 147), 3);
    }

    private static void blanks() {
        Check.says("read byte by byte, blanks (32) between TOKENS");
        Check.read("b;k5;o0+0;q1 1 2;b;z0;b;j0 0;z2;", 3);
        Check.read("  b  ;  k  5  ;  o  0  +  0  ;  q  1  1  2  ;  b  ;  z  0  ;b;j0   0 ; z 2 ;  ", 3);
        Check.faultAtBar("b;k1 |2;z0;");
        Check.faultAtBar("b;i;q0 |12;");
        for (int c = 0; c <= 255; c++) {
            String text = "b;" + (char) c + "k1;z0;";
            if (c == ' ') {
                Check.read(text, 1);
            } else {
                Check.fault(text, 2);
            }
        }
    }

    private static void items() {
        Check.says("each ITEM is ended by ;");
        for (int c = 0; c <= 255; c++) {
            String text = "b;k1" + (char) c + "z0;";
            if (c == ';') {
                Check.read(text, 1);
            } else {
                Check.fault(text, c == ' ' || isDigit(c) ? 5 : 4);
            }
        }
        Check.faultAtBar("b |k1;z0;");
        Check.faultAtBar("b;i |k1;z0;");
        Check.faultAtBar("b;i;o0+0 |z1;");
        Check.faultAtBar("b;i;g1 |b;z0;");
        Check.faultAtBar("b;i;q0 1 2 |b;z0;b;z0;");
        Check.faultAtBar("b;i;g1;b;j0 0 |z1;");
        Check.faultAtBar("b;i;z0 |b;z0;");
        Check.faultAtBar("b;|;i;z0;");
        Check.faultAtBar("b;i;|;z0;");
        Check.faultAtBar("b;i;z0;|;");
    }

    private static boolean isDigit(int c) {
        return c >= '0' && c <= '9';
    }

    private static void letters() {
        Check.says("TOKENS are letters a .. z side by side");
        for (int c = 0; c <= 255; c++) {
            String text = (char) c + ";k1;z0;";
            if (c == 'b') {
                Check.read(text, 1);
            } else {
                Check.fault(text, c == ' ' ? 1 : 0);
            }
        }
        for (char c = 'a'; c <= 'z'; c++) {
            Check.fault("b" + c + ";k1;z0;", 0);
            Check.fault("b;" + c + "k1;z0;", 2);
            Check.fault("b;k" + c + "1;z0;", 2);
        }
        for (char c : new char[] {'@', 'A', 'Z', '[', '`', '{'}) {
            Check.fault("b" + c + ";k1;z0;", 1);
        }
    }

    private static void numerals() {
        Check.says("NUMERALS");
        for (int c = 0; c <= 255; c++) {
            String text = "b;k" + (char) c + ";z0;";
            if (isDigit(c)) {
                FlowConstants x = Check.read(text, 1);
                Check.asked("found(0)", x, x.found(0), 1, c - '0');
            } else {
                Check.fault(text, c == ' ' ? 4 : c >= 'a' && c <= 'z' ? 2 : 3);
            }
        }
    }

    /** Letters are no NUMERALS, even those of an ITEM; nor are NUMERALS letters, even of their number. */
    private static void lettersForNumerals() {
        for (String letters : new String[] {"b", "i", "z", "a", "bb", "xyz"}) {
            Check.faultAtBar("b;k |" + letters + ";z0;");
            Check.faultAtBar("b;i;o |" + letters + "+0;z0;");
            Check.faultAtBar("b;i;o0+|" + letters + ";z0;");
            Check.faultAtBar("b;i;o0|" + letters + " 0;z0;");
            Check.faultAtBar("b;i;g1;b;j |" + letters + " 0;z0;");
            Check.faultAtBar("b;i;g1;b;j0 |" + letters + ";z0;");
            Check.faultAtBar("b;i;g |" + letters + ";b;z0;");
            Check.faultAtBar("b;i;q |" + letters + " 1 2;b;z0;b;z0;");
            Check.faultAtBar("b;i;q0 |" + letters + " 2;b;z0;b;z0;");
            Check.faultAtBar("b;i;q0 1 |" + letters + ";b;z0;b;z0;");
            Check.faultAtBar("b;i;z |" + letters + ";");
        }
        Check.faultAtBar("|" + (int) 'b' + ";i;z0;");
        Check.faultAtBar("b;|" + (int) 'i' + ";z0;");
        Check.faultAtBar("b;i;|" + (int) 'z' + " 0;");
        Check.faultAtBar("b;i;o0 |" + (int) '+' + " 0;z1;");
    }

    private static void signs() {
        Check.says("the signs + - * / % & ^ < = and ;");
        for (int c = 0; c <= 255; c++) {
            String text = "b;i;o0" + (char) c + "0;z1;";
            if (SIGNS.indexOf(c) >= 0) {
                Check.due("name(1, 2)", Check.read(text, 2).name(1, 2), c);
            } else {
                Check.fault(text, c == ' ' ? 7 : isDigit(c) ? 5 : 6);
            }
        }
        for (char one : SIGNS.toCharArray()) {
            Check.faultAtBar("b;i;o0<|" + one + "0;z1;");
            Check.faultAtBar("b;i;o|" + one + "0+0;z1;");
        }
    }

    private static void firstFault() {
        Check.says("FAULT: the place of the first byte of the first TOKEN that can't stand there");
        Check.faultAtBar("|k1000;!");
        Check.faultAtBar("|!;k1000;");
        Check.faultAtBar("b;k|1000;!");
        Check.faultAtBar("b;i;q|24 8 8;");
        Check.faultAtBar("b;i;q0 |8 8;");
        Check.faultAtBar("b;i;o|24!24;");
        Check.faultAtBar("b;i;o0|!24;");
        Check.faultAtBar("b;|j8 24 8 24;");
        Check.faultAtBar("   |x;");
        Check.faultAtBar("b;  |xyz  ;");
        Check.faultAtBar("b;k   |1000   ;");
    }

    private static void noItem() {
        Check.says("letters that begin no ITEM");
        for (char c = 'a'; c <= 'z'; c++) {
            if (ITEM_LETTERS.indexOf(c) < 0) {
                Check.faultAtBar("|" + c + ";");
                Check.faultAtBar("b;|" + c + ";");
                Check.faultAtBar("b;i;|" + c + " 0;");
                Check.faultAtBar("b;i;z0;|" + c + ";");
            }
            for (char letter : ITEM_LETTERS.toCharArray()) {
                Check.faultAtBar("b;i;g1;b;|" + letter + c + " 0 0;");
            }
        }
        Check.faultAtBar("|;");
        Check.faultAtBar("b;|7;");
        Check.faultAtBar("b;i;|+;");
        Check.faultAtBar("b;i;z0;|0;");
    }

    private static void blockWithoutEnd() {
        Check.says("b where a BLOCK has no END yet, a ninth one");
        Check.faultAtBar("b;|b;");
        Check.faultAtBar("b;i;|b;z0;");
        Check.faultAtBar("b;i;z0;b;|b;z0;");
        Check.read("b;i;z0;b;z0;", 1);
        Check.faultAtBar("b;i;z0;" + times("b;z0;", 6) + "b;|b;z0;");
        Check.faultAtBar("b;i;z0;" + times("b;z0;", 7) + "|b");
    }

    private static void aheadAndBehind() {
        Check.says("another ITEM ahead of the first b, or behind an END");
        for (String item : ITEMS) {
            Check.faultAtBar("|" + item + "b;i;z0;");
            Check.faultAtBar("  |" + item);
            for (String end : ENDS) {
                Check.faultAtBar("b;i;" + end + "|" + item);
                Check.faultAtBar("b;i;g1;b;" + end + " |" + item);
            }
        }
    }

    private static void joinsFirst() {
        Check.says("j behind a NAME that is no JOIN in its BLOCK, in BLOCK 0");
        Check.read("b;i;g1;b;j0 0;j0 0;j0 0;z3;", 4);
        Check.read("b;i;g1;b;j0 0;i;g2;b;j1 2;z3;", 4);
        for (String other : new String[] {"k1;", "i;", "o0+0;"}) {
            Check.faultAtBar("b;i;g1;b;" + other + "|j0 0;z0;");
            Check.faultAtBar("b;i;g1;b;j0 0;" + other + "|j0 0;z0;");
            Check.read("b;i;g1;b;j0 0;" + other + "z0;", 3);
            Check.faultAtBar("b;" + other + "|j0 0;z0;");
        }
        Check.faultAtBar("b;|j0 0;z0;");
        Check.faultAtBar("b;|j1 0;z0;b;g0;");
    }

    private static void twentyFifthName() {
        Check.says("a twenty-fifth NAME, at its letter");
        String full = "b;" + times("i;", 24);
        Check.faultAtBar(full + "|k1;z0;");
        Check.faultAtBar(full + "|k1000;z0;");
        Check.faultAtBar(full + "|i;z0;");
        Check.faultAtBar(full + "|o0+0;z0;");
        Check.faultAtBar(full + "|o24+24;z0;");
        Check.faultAtBar("b;" + times("i;", 24) + "g1;b;|j0 0;z0;");
        Check.faultAtBar("b;" + times("i;", 23) + "g1;b;j0 0;|j0 0;z0;");
        Check.read("b;" + times("i;", 22) + "g1;b;j0 0;j0 0;z0;", 24);
        Check.read("b;" + times("i;", 23) + "k1;z0;", 24);
        Check.read("b;" + times("i;", 23) + "o0+22;z23;", 24);
    }

    private static void fourthArm() {
        Check.says("a fourth arm, an arm of a BLOCK once more");
        Check.faultAtBar("b;i;g1;b;j1 0 2 0 3 0 |4 0;");
        Check.faultAtBar("b;i;g1;b;j1 0 2 0 3 0 |1 0;");
        Check.faultAtBar("b;i;g1;b;j1 0 2 0 3 0 |8 0;");
        Check.faultAtBar("b;i;g1;b;j0 0 |0 0;");
        Check.faultAtBar("b;i;g1;b;j7 0 |7 0;");
        Check.faultAtBar("b;i;g1;b;j1 0 2 0 |1 0;");
        Check.faultAtBar("b;i;g1;b;j1 0 2 0 |2 0;");
        Check.read("b;i;q0 1 2;b;g3;b;g3;b;j1 0 2 0;j1 0 2 0;z1;", 3);
        Check.notStrict("b;i;g1;b;j1 0 2 0 0 0;z0;");
    }

    private static void sameTarget() {
        Check.says("q X B C (END: to B, or to C, unlike ones); C that is B");
        for (int b = 0; b <= 7; b++) {
            Check.faultAtBar("b;i;q0 " + b + " |" + b + ";");
        }
        Check.read("b;i;i;q1 1 2;b;z0;b;z0;", 2);
        Check.read("b;i;i;q1 2 1;b;z0;b;z0;", 2);
        Check.faultAtBar("b;i;q0 1|;");
        Check.faultAtBar("b;i;q0 1 2 |3;");
    }

    private static void numeralsBeyond() {
        Check.says("a NUMERAL beyond what it may be: BLOCKS 0 .. 7, NAMES 0 .. 23");
        Check.read("b;i;g7;" + times("b;z0;", 7), 1);
        Check.read("b;i;q0 7 6;" + times("b;z0;", 5) + "b;j0 0 7 0;z1;b;g6;", 2);
        Check.read("b;i;q0 6 7;" + times("b;z0;", 5) + "b;j7 0 0 0;z1;b;g6;", 2);
        for (int b : new int[] {8, 9, 10, 23, 24, 99, 999}) {
            Check.faultAtBar("b;i;g|" + b + ";");
            Check.faultAtBar("b;i;q0 |" + b + " 1;");
            Check.faultAtBar("b;i;q0 1 |" + b + ";");
            Check.faultAtBar("b;i;g1;b;j|" + b + " 0;z0;");
            Check.faultAtBar("b;i;g1;b;j0 0 |" + b + " 0;z0;");
        }
        Check.read("b;" + times("i;", 24) + "z23;", 24);
        Check.read("b;" + times("i;", 24) + "q23 1 2;b;z23;b;z23;", 24);
        Check.read("b;g2;b;o23+23;z0;b;" + times("i;", 23) + "g1;", 24);
        Check.read("b;" + times("i;", 22) + "g1;b;j0 0 1 23;i;q23 1 2;b;z23;", 24);
        for (int n : new int[] {24, 25, 99, 999}) {
            Check.faultAtBar("b;i;z|" + n + ";");
            Check.faultAtBar("b;i;q|" + n + " 1 2;");
            Check.faultAtBar("b;i;o|" + n + "+0;");
            Check.faultAtBar("b;i;o0+|" + n + ";");
            Check.faultAtBar("b;i;g1;b;j0 |" + n + ";z0;");
            Check.faultAtBar("b;i;g1;b;j0 0 1 |" + n + ";z0;");
        }
    }

    /** Each TOKEN of DIAMOND is one byte: up to any place all stands. */
    private static void byteThatBeginsNone() {
        Check.says("of a byte that begins none .. that TOKEN's");
        for (int c = 0; c <= 255; c++) {
            boolean begins = c == ' ' || c == ';' || SIGNS.indexOf(c) >= 0 || isDigit(c) || c >= 'a' && c <= 'z';
            for (int place = begins ? DIAMOND.length() + 1 : 0; place <= DIAMOND.length(); place++) {
                Check.fault(DIAMOND.substring(0, place) + (char) c + DIAMOND.substring(place), place);
            }
        }
    }

    private static void numeralsAbove() {
        Check.says("a NUMERAL above 999 or with a 0 ahead of others, that TOKEN's");
        String[] wrong = {"1000", "1001", "9990", "9999", "10000", "65536", "2147483647", "2147483648",
            "4294967295", "4294967296", "4294967297", "18446744073709551616", "18446744073709551617",
            "00", "01", "09", "000", "0999", "01000", "00000000000001"};
        for (String numeral : wrong) {
            Check.faultAtBar("b;k|" + numeral + ";z0;");
            Check.faultAtBar("b;i;o|" + numeral + "+0;z0;");
            Check.faultAtBar("b;i;o0+|" + numeral + ";z0;");
            Check.faultAtBar("b;i;g1;b;j|" + numeral + " 0;z0;");
            Check.faultAtBar("b;i;g1;b;j0 |" + numeral + ";z0;");
            Check.faultAtBar("b;i;g|" + numeral + ";b;z0;");
            Check.faultAtBar("b;i;q|" + numeral + " 1 2;b;z0;b;z0;");
            Check.faultAtBar("b;i;q0 |" + numeral + " 2;b;z0;b;z0;");
            Check.faultAtBar("b;i;q0 1 |" + numeral + ";b;z0;b;z0;");
            Check.faultAtBar("b;i;z|" + numeral + ";");
            Check.faultAtBar("b;|" + numeral + ";");
            Check.faultAtBar("b;k1 |" + numeral + ";z0;");
        }
        Check.read("b;k0;k10;k100;k999;z0;", 4);
    }

    private static void tooEarly() {
        Check.says("the text's length, if it ends too early (the last BLOCK without END, no BLOCK, too)");
        for (int length = 0; length < DIAMOND.length(); length++) {
            String early = DIAMOND.substring(0, length);
            Check.fault(early, length);
            Check.fault(early + "   ", length + 3);
        }
        Check.fault("b;i;z0;b", 8);
        Check.fault("b;i;z0;b;", 9);
        Check.fault("b;i;z0;b;i;", 11);
        Check.fault("b;i;z0;b;z0", 11);
        Check.read("b;i;z0;b;z0;", 1);
    }

    private static void notStrictAtLast() {
        Check.says("or if, all else being right, it is not STRICT");
        Check.notStrict("b;z5;");
        Check.notStrict("b;z5;   ");
        Check.faultAtBar("b;z5;|!");
        Check.faultAtBar("b;z5;|z5;");
        Check.faultAtBar("b;z5;b|");
        Check.faultAtBar("b;g0;b;z0;b;k|1000;");
        Check.notStrict("b;z5;" + times("b;z5;", 7));
        Check.faultAtBar("b;z5;" + times("b;z5;", 7) + "|b;z5;");
    }

    private static void edges() {
        Check.says("EDGES: from a BLOCK to each to which its END may go");
        Check.due("count(2)", Check.read("b;i;z0;", 1).count(2), 0);
        Check.due("count(2)", Check.read("b;i;g1;b;z0;", 1).count(2), 1);
        Check.due("count(2)", Check.read("b;i;q0 1 2;b;z0;b;z0;", 1).count(2), 2);
        Check.due("count(2)", Check.read("b;i;" + times("q0 1 2;b;", 7) + "q0 1 2;", 1).count(2), 16);
    }

    private static void dominators() {
        Check.says("A BLOCK DOMINATES another one, if each way along EDGES from BLOCK 0 to that goes "
            + "through it (itself, too; any one, where there is no way)");
        Check.due("block(0, 8)", Check.read("b;i;z0;", 1).block(0, 8), 1);
        dominate("b;i;z0;b;z0;", 1, 3);
        dominate("b;i;z0;" + times("b;z0;", 7), 1, 255, 255, 255, 255, 255, 255, 255);
        dominate("b;i;g1;b;g2;b;g3;b;g4;b;g5;b;g6;b;g7;b;z0;", 1, 3, 7, 15, 31, 63, 127, 255);
        dominate("b;i;q0 1 2;b;g3;b;g3;b;z0;", 1, 3, 5, 9);
        dominate("b;i;q0 1 2;b;g2;b;z0;", 1, 3, 5);
        // The way from BLOCK 3, to which there is none, to BLOCK 2 does not count.
        dominate("b;i;g1;b;g2;b;z0;b;g2;", 1, 3, 7, 15);
        dominate("b;i;g1;b;q0 1 2;b;q0 1 3;b;q0 3 2;", 1, 3, 7, 15);
    }

    private static void dominate(String text, int... due) {
        FlowConstants x = Check.read(text, 1);
        for (int b = 0; b < due.length; b++) {
            Check.due("block(" + b + ", 8) of " + text, x.block(b, 8), due[b]);
        }
    }

    private static void toldOfAreThere() {
        Check.says("STRICT: BLOCKS, NAMES told of are there");
        Check.read("b;i;g1;b;z0;", 1);
        Check.notStrict("b;i;g2;b;z0;");
        Check.notStrict("b;i;g7;b;z0;");
        Check.read("b;i;q0 1 2;b;z0;b;z0;", 1);
        Check.notStrict("b;i;q0 1 3;b;z0;b;z0;");
        Check.notStrict("b;i;q0 3 1;b;z0;b;z0;");
        Check.read("b;i;g1;b;j0 0;z0;", 2);
        Check.notStrict("b;i;g1;b;j0 0 2 0;z0;");
        Check.notStrict("b;i;g1;b;j0 2;z0;");
        Check.notStrict("b;i;g1;b;j0 23;z0;");
        Check.notStrict("b;z0;");
        Check.notStrict("b;i;z1;");
        Check.notStrict("b;i;z23;");
        Check.notStrict("b;i;q1 1 2;b;z0;b;z0;");
        // Where there is no way, any BLOCK dominates, but a NAME must be there all the same.
        Check.read("b;i;z0;b;o0+0;z1;", 2);
        Check.notStrict("b;i;z0;b;o2+0;z1;");
        Check.notStrict("b;i;z0;b;o0+2;z1;");
        Check.notStrict("b;i;z0;b;z1;");
        Check.notStrict("b;i;z0;b;g2;");
        Check.notStrict("b;i;z0;b;j1 2;g1;");
        Check.notStrict("b;g1;b;g1;b;o1+0;z0;");
        Check.notStrict("b;g1;b;g1;b;o1+1;g1;");
        Check.notStrict("b;g1;b;g1;b;j2 1;g2;");
    }

    private static void noEdgeToBlock0() {
        Check.says("no EDGE goes to BLOCK 0");
        Check.notStrict("b;i;g0;");
        Check.notStrict("b;i;q0 0 1;b;z0;");
        Check.notStrict("b;i;q0 1 0;b;z0;");
        Check.notStrict("b;i;g1;b;g0;");
        Check.notStrict("b;i;z0;b;g0;");
        Check.notStrict("b;i;z0;b;q0 0 1;");
        Check.read("b;i;z0;b;g1;", 1);
    }

    private static void armsFitEdges() {
        Check.says("a JOIN has an arm for each BLOCK from which an EDGE goes to its own, and for no other");
        String diamond = "b;i;q0 1 2;b;g3;b;g3;b;";
        Check.read(diamond + "j1 0 2 0;z1;", 2);
        Check.read(diamond + "j2 0 1 0;z1;", 2);
        Check.notStrict(diamond + "j1 0;z1;");
        Check.notStrict(diamond + "j2 0;z1;");
        Check.notStrict(diamond + "j0 0;z1;");
        Check.notStrict(diamond + "j1 0 0 0;z1;");
        Check.notStrict(diamond + "j1 0 2 0 0 0;z1;");
        Check.notStrict(diamond + "j1 0 2 0 3 0;z1;");
        Check.notStrict(diamond + "j1 0 2 0;j1 0;z1;");
        // An EDGE counts, though there is no way to its BLOCK.
        Check.notStrict("b;i;g1;b;j0 0;z1;b;g1;");
        Check.read("b;i;g1;b;j0 0 2 0;z1;b;g1;", 2);
        Check.notStrict("b;i;z0;b;j0 0;z1;");
        Check.read("b;i;z0;b;j1 0;g1;", 2);
        // Four BLOCKS go to BLOCK 5: no JOIN has as many arms.
        String four = "b;i;q0 1 2;b;q0 3 5;b;q0 4 5;b;g5;b;g5;b;";
        Check.read(four + "z0;", 1);
        Check.notStrict(four + "j1 0 2 0 3 0;z1;");
    }

    private static void madeAhead() {
        Check.says("a NAME is made in a BLOCK that DOMINATES that of an OPERATION, an END of which it is "
            + "part (in the same one: ahead of it)");
        Check.read("b;i;o0+0;z1;", 2);
        Check.notStrict("b;i;o1+0;z1;");
        Check.notStrict("b;i;o0+1;z1;");
        Check.notStrict("b;i;o2+0;i;z1;");
        Check.notStrict("b;i;o0+2;i;z1;");
        Check.read("b;i;g1;b;o0+0;g2;b;o0+1;z2;", 3);
        // BLOCK 2 is come to ahead of BLOCK 1, though it is told behind it.
        Check.read("b;g2;b;o1+1;z0;b;i;g1;", 2);
        Check.notStrict("b;g1;b;o1+1;g2;b;i;z0;");
        String sides = "b;i;q0 1 2;b;i;g3;b;i;g3;b;";
        Check.read(sides + "o0+0;z3;", 4);
        Check.notStrict(sides + "o1+0;z3;");
        Check.notStrict(sides + "o0+2;z3;");
        Check.read(sides + "z0;", 3);
        Check.notStrict(sides + "z1;");
        Check.notStrict(sides + "z2;");
        Check.notStrict("b;i;q0 1 2;b;i;q2 3 4;b;i;g3;b;z0;b;z0;");
        Check.read("b;i;q0 1 2;b;i;q1 3 4;b;i;g3;b;z0;b;z1;", 3);
        Check.notStrict("b;z0;b;i;z0;");
        Check.notStrict("b;q0 1 2;b;i;z0;b;z0;");
        Check.read("b;g1;b;i;z0;", 1);
        Check.notStrict("b;i;z0;b;o2+0;i;z0;");
        Check.read("b;i;z0;b;i;o1+0;z2;", 3);
    }

    private static void madeAheadOfArms() {
        Check.says("DOMINATES the BLOCK of its arm of a JOIN");
        String sides = "b;i;q0 1 2;b;i;g3;b;i;g3;b;";
        Check.read(sides + "j1 1 2 2;z3;", 4);
        Check.read(sides + "j1 0 2 0;z3;", 4);
        Check.notStrict(sides + "j1 2 2 2;z3;");
        Check.notStrict(sides + "j1 1 2 1;z3;");
        Check.notStrict(sides + "j1 3 2 2;z3;");
        // Around a loop a NAME may be its own arm, or one made behind it.
        Check.read("b;i;g1;b;j0 0 1 1;q1 1 2;b;z1;", 2);
        Check.read("b;i;g1;b;j0 0 1 2;i;q1 1 2;b;z1;", 3);
        Check.notStrict("b;i;g1;b;j0 1 1 1;q1 1 2;b;z1;");
        Check.notStrict("b;i;g1;b;j0 0 1 2;q1 1 2;b;i;z1;");
    }
}
