import java.util.Random;

/** Whatever the inputs are given as, runs agree with what was found. */
public final class AgreementTest {
    private static final int PROGRAMS = 10000, GIVEN = 6;

    private final String text;
    private final FlowConstants x = new FlowConstants();
    private final int names;
    private final int blocks;

    private AgreementTest(String text) {
        this.text = text;
        Check.type(x, text);
        names = x.program();
        blocks = x.count(1);
        Check.isTrue("read: " + text, names >= 0);
    }

    public static void main(String[] args) {
        int traps = 0;
        int dead = 0;
        for (int seed = 0; seed < PROGRAMS && Check.wrong() < 10; seed++) {
            String text = new Texts(seed).program();
            Random random = new Random(seed);
            new AgreementTest(text).plainIsAbove();
            for (int i = 0; i < GIVEN; i++) {
                AgreementTest test = new AgreementTest(text);
                test.choose(random);
                traps += test.agrees();
                dead += test.blocks - test.x.count(3);
            }
        }
        Check.isTrue("some runs trap", traps > PROGRAMS / 20);
        Check.isTrue("some blocks are dead", dead > PROGRAMS);
        Check.end("AgreementTest");
    }

    private void choose(Random random) {
        for (int n = 0; n < names; n++) {
            if (random.nextInt(3) == 0) {
                x.knows(n, random.nextInt(4) - 1);
            }
            x.gives(n, random.nextInt(5) == 0 ? random.nextInt() : random.nextInt(5) - 2);
        }
    }

    private void plainIsAbove() {
        for (int n = 0; n < names; n++) {
            int found = x.name(n, 6);
            Check.isTrue("plain is above what is found: " + text, x.name(n, 7) >= found);
            Check.isTrue("names of live blocks, and no others, have values: " + text,
                (found == FlowConstants.NEVER) == (x.block(x.name(n, 0), 0) == 0));
        }
    }

    /** 1, if the run traps, else 0. */
    private int agrees() {
        int outcome = x.run();
        int at = x.asked();
        Check.isTrue("what traps is any: " + text, outcome != 1 || x.name(at, 6) == FlowConstants.ANY);
        for (int b = 0; b < blocks; b++) {
            Check.isTrue("a block come to is live: " + text, x.visits(b) == 0 || x.block(b, 0) == 1);
        }
        for (int n = 0; n < names && outcome != 1; n++) {
            if (x.visits(x.name(n, 0)) > 0 && x.found(n) == 1) {
                int found = x.asked();
                x.last(n);
                Check.due("the value of " + n + " in a run: " + text, x.asked(), found);
            }
        }
        return outcome == 1 ? 1 : 0;
    }
}
