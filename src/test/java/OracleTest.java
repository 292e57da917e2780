import java.util.Random;

/** Runs of chosen calls, each answered as by the Oracle. */
public final class OracleTest {
    private static final int RUNS = 3000, SPOILED = 20000;

    /** An object is used for 512 calls; behind the last byte of a text four more are made. */
    private static final int CALLS = 512 - 4;

    private static final int[] NUMBERS = {0, 0, 1, 1, 2, 3, -1, 7, 255, 999, 1000, Integer.MIN_VALUE, Integer.MAX_VALUE};

    private final Random random;
    private final Texts texts;
    private final FlowConstants x = new FlowConstants();
    private final Oracle oracle = new Oracle();
    private final StringBuilder told = new StringBuilder();
    private int calls = 0;

    private OracleTest(long seed) {
        random = new Random(seed);
        texts = new Texts(seed);
    }

    public static void main(String[] args) {
        int read = 0;
        for (int seed = 0; seed < RUNS && Check.wrong() < 10; seed++) {
            new OracleTest(seed).play();
        }
        for (int seed = 0; seed < SPOILED && Check.wrong() < 10; seed++) {
            read += new OracleTest(seed).spoil();
        }
        Check.isTrue("some spoiled texts are faults, some are not", read > SPOILED / 50 && read < SPOILED / 2);
        Check.end("OracleTest");
    }

    private int spoil() {
        type(texts.spoiled(texts.program()));
        int names = x.program();
        due("program()", names, oracle.program());
        due("count(12)", x.count(12), oracle.count(12));
        return names >= 0 ? 1 : 0;
    }

    private void play() {
        while (calls < CALLS) {
            if (calls == 0 || random.nextInt(150) == 0) {
                String text = texts.program();
                type(random.nextInt(12) == 0 ? texts.spoiled(text) : text);
                due("program()", x.program(), oracle.program());
                if (oracle.bytes() > 0) {
                    due("clear()", x.clear(), oracle.clear());
                }
            }
            call();
        }
    }

    private void type(String text) {
        for (int i = 0; i < text.length() && calls < CALLS; i++) {
            due("type(" + (int) text.charAt(i) + ")", x.type(text.charAt(i)), oracle.type(text.charAt(i)));
        }
    }

    private int number() {
        return random.nextInt(4) == 0 ? NUMBERS[random.nextInt(NUMBERS.length)] : random.nextInt(4);
    }

    /** One of the NAMES mostly, now and then something else. */
    private int someName() {
        return random.nextInt(20) == 0 ? number() : random.nextInt(oracle.names() + 1);
    }

    private int someInput() {
        for (int tries = 0; tries < 20; tries++) {
            int n = random.nextInt(25);
            if (oracle.name(n, 1) == 1) {
                return n;
            }
        }
        return someName();
    }

    private int someBlock() {
        return random.nextInt(20) == 0 ? number() : random.nextInt(oracle.blocks() + 1);
    }

    private void call() {
        int n = someName();
        int i = someInput();
        int b = someBlock();
        int v = number();
        int what = random.nextInt(15) - 1;
        switch (random.nextInt(19)) {
            case 0 -> due("name(" + n + ", " + what + ")", x.name(n, what), oracle.name(n, what));
            case 1 -> due("found(" + n + ")", x.found(n), oracle.found(n));
            case 2 -> due("block(" + b + ", " + what + ")", x.block(b, what), oracle.block(b, what));
            case 3, 4 -> due("knows(" + i + ", " + v + ")", x.knows(i, v), oracle.knows(i, v));
            case 5 -> due("forgets(" + i + ")", x.forgets(i), oracle.forgets(i));
            case 6, 7 -> due("gives(" + i + ", " + v + ")", x.gives(i, v), oracle.gives(i, v));
            case 8 -> due("patches(" + n + ", " + v + ")", x.patches(n, v), oracle.patches(n, v));
            case 9 -> due("turned(" + b + ")", x.turned(b), oracle.turned(b));
            case 10 -> due("undo()", x.undo(), oracle.undo());
            case 11 -> due("run()", x.run(), oracle.run());
            case 12 -> due("visits(" + b + ")", x.visits(b), oracle.visits(b));
            case 13 -> due("last(" + n + ")", x.last(n), oracle.last(n));
            case 14, 15 -> due("count(" + what + ")", x.count(what), oracle.count(what));
            case 16 -> due("best(" + (what % 3) + ")", x.best(what % 3), oracle.best(what % 3));
            case 17 -> due("keep(" + (what % 3) + ")", x.keep(what % 3), oracle.keep(what % 3));
            default -> {
                if (random.nextInt(3) == 0) {
                    due("back(" + (what % 3) + ")", x.back(what % 3), oracle.back(what % 3));
                }
            }
        }
        due("asked()", x.asked(), oracle.asked());
    }

    private void due(String call, int got, int want) {
        calls++;
        told.append(call).append(' ').append(want).append("; ");
        Check.due(got == want ? call : told.toString(), got, want);
    }
}
