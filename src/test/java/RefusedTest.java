import java.util.ArrayList;
import java.util.List;
import java.util.function.ToIntFunction;

/** 'Refused, and nothing changes, the first of these: BAD .., STATE .., FULL'; and what only asks. */
public final class RefusedTest {
    private static final int BAD = -1, STATE = -2, FULL = -3;
    private static final int LOW = Integer.MIN_VALUE, HIGH = Integer.MAX_VALUE;
    private static final int[] PLACES = {LOW, -1, 0, 1, 2, 3, 4, 5, 6, 7, 8, 23, 24, HIGH};
    private static final int[] NUMBERS = {LOW, -1, 0, 1, 5, 6, 999, 1000, HIGH};
    private static final int[] WHATS = {LOW, -1, 0, 1, 2, 3, 4, 5, 6, 7, 8, 9, 10, 11, 12, 13, HIGH};

    private static final String DIAMOND = "b;k5;i;q1 1 2;b;k1;g3;b;k2;g3;b;j1 2 2 3;o4+0;z5;";
    private static final String TRAP = "b;i;k0;i;o0/1;o0%2;q3 1 2;b;z0;b;o4*4;z5;";

    /** Calls that make an object, and how it is seen behind them. */
    private final List<ToIntFunction<FlowConstants>> calls;
    private final List<Integer> ahead;
    private final List<Integer> askedAhead;
    private final String name;
    private int refused = 0;

    private interface Call extends ToIntFunction<FlowConstants> {
    }

    private RefusedTest(String name, Call... calls) {
        this.name = name;
        this.calls = List.of(calls);
        ahead = Sight.of(this.calls);
        askedAhead = Sight.of(with(x -> x.last(0)));
    }

    public static void main(String[] args) {
        Check.says("Refused, and nothing changes; (Nothing is changed.)");
        new RefusedTest("new").tryAll(150);
        new RefusedTest("half a text", typed("b;k")).tryAll(150);
        new RefusedTest("a full text", typed("b;i;z0;" + " ".repeat(142) + "!")).tryAll(150);
        new RefusedTest("no names", read("b;g1;b;g1;")).tryAll(100);
        new RefusedTest("as told", read(DIAMOND)).tryAll(100);
        new RefusedTest("traps", read(TRAP), x -> x.knows(0, 4), x -> x.run()).tryAll(100);
        new RefusedTest("one done", read(DIAMOND), x -> x.knows(1, 4), x -> x.keep(1), typed("b;")).tryAll(100);
        new RefusedTest("ten done", read(DIAMOND), x -> x.knows(1, 4), x -> x.keep(0), x -> x.gives(1, 3),
            x -> x.patches(0, 6), x -> x.turned(0), x -> x.patches(2, 9), x -> x.keep(1), x -> x.forgets(1),
            x -> x.gives(1, -3), x -> x.patches(3, 9), x -> x.turned(0), x -> x.knows(1, 0),
            x -> x.patches(0, 7), x -> x.found(0), typed("b;k1")).tryAll(100);
        new RefusedTest("back", read(DIAMOND), x -> x.knows(1, 4), x -> x.keep(0), x -> x.patches(0, 6),
            x -> x.back(0), x -> x.run()).tryAll(100);
        firstRefusal();
        Check.end("RefusedTest");
    }

    private static Call typed(String text) {
        return x -> Check.type(x, text).count(12);
    }

    private static Call read(String text) {
        return x -> Check.type(x, text).program();
    }

    private List<ToIntFunction<FlowConstants>> with(Call... more) {
        List<ToIntFunction<FlowConstants>> all = new ArrayList<>(calls);
        all.addAll(List.of(more));
        return all;
    }

    private void tryAll(int due) {
        tryTexts();
        for (int n : PLACES) {
            tryOfOne("found", n, x -> x.found(n));
            tryOfOne("forgets", n, x -> x.forgets(n));
            tryOfOne("turned", n, x -> x.turned(n));
            tryOfOne("last", n, x -> x.last(n));
            tryOfOne("keep", n, x -> x.keep(n));
            tryOfOne("back", n, x -> x.back(n));
            asks("visits(" + n + ")", x -> x.visits(n));
            for (int v : NUMBERS) {
                tryOfOne("knows " + v, n, x -> x.knows(n, v));
                tryOfOne("gives " + v, n, x -> x.gives(n, v));
                tryOfOne("patches " + v, n, x -> x.patches(n, v));
            }
        }
        tryOfOne("undo", 0, x -> x.undo());
        tryOfOne("run", 0, x -> x.run());
        tryWhats();
        Check.isTrue(name + ": so many are refused: " + refused, refused >= due);
    }

    private void tryTexts() {
        for (int c : new int[] {LOW, -1, 0, 32, 98, 255, 256, HIGH}) {
            tryOfOne("type", c, x -> x.type(c));
        }
        FlowConstants x = made();
        if (x.program() < 0) {
            asks("program()", c -> c.program());
        }
        asks("asked()", c -> c.asked());
    }

    private void tryWhats() {
        for (int what : WHATS) {
            asks("count(" + what + ")", x -> x.count(what));
            asks("best(" + what + ")", x -> x.best(what));
            for (int n : new int[] {LOW, -1, 0, 1, 3, 5, 6, 8, 24, HIGH}) {
                asks("name(" + n + ", " + what + ")", x -> x.name(n, what));
                asks("block(" + n + ", " + what + ")", x -> x.block(n, what));
            }
        }
        for (int n = 0; n < made().count(0); n++) {
            int at = n;
            asksAndTells("last(" + n + ")", x -> x.last(at));
            asksAndTells("found(" + n + ")", x -> x.found(at));
            asksAndTells("run()", x -> x.run());
        }
    }

    private FlowConstants made() {
        FlowConstants x = new FlowConstants();
        calls.forEach(call -> call.applyAsInt(x));
        return x;
    }

    private void tryOfOne(String call, int n, Call tried) {
        int answer = tried.applyAsInt(made());
        if (answer == BAD || answer == STATE || answer == FULL) {
            refused++;
            asks(call + "(" + n + ")", tried);
        }
    }

    private void asks(String call, Call tried) {
        Check.isTrue(name + ": nothing changes by " + call, Sight.of(with(tried)).equals(ahead));
        Check.isTrue(name + ": nor by two of " + call, Sight.of(with(tried, tried)).equals(ahead));
    }

    /** Nothing but what asked() tells. */
    private void asksAndTells(String call, Call tried) {
        Check.isTrue(name + ": nothing else changes by " + call,
            Sight.of(with(tried, x -> x.last(0))).equals(askedAhead));
    }

    /** Of two refusals that would hold the first is answered. */
    private static void firstRefusal() {
        Check.says("the first of these: BAD (a number is not as told, or there is no such thing), "
            + "STATE (as told), FULL");
        FlowConstants x = Check.type(new FlowConstants(), " ".repeat(150));
        Check.due("type(-1): BAD, FULL", x.type(-1), BAD);
        Check.due("type(256): BAD, FULL", x.type(256), BAD);
        Check.due("type(255): FULL", x.type(255), FULL);
        for (int n : new int[] {LOW, -1, 0, 24, HIGH}) {
            Check.due("found() of no name: BAD, STATE", x.found(n), BAD);
            Check.due("forgets() of no name: BAD, STATE", x.forgets(n), BAD);
            Check.due("turned() of no block: BAD, STATE", x.turned(n), BAD);
        }
        Check.due("back(2): BAD, STATE", x.back(2), BAD);
        Check.due("back(-1): BAD, STATE", x.back(-1), BAD);
        Check.due("back(1): STATE", x.back(1), STATE);
        Check.due("best(2): BAD, NONE", x.best(2), BAD);
        x = Check.read(DIAMOND, 6);
        Check.due("forgets() of a number: BAD, STATE", x.forgets(0), BAD);
        Check.due("forgets() of a join: BAD, STATE", x.forgets(4), BAD);
        Check.due("forgets() of an operation: BAD, STATE", x.forgets(5), BAD);
        Check.due("forgets() of an input: STATE", x.forgets(1), STATE);
        Check.due("patches() of an input, given so: BAD, STATE", x.patches(1, 0), BAD);
        Check.due("patches() beyond 999: BAD", x.patches(0, 1000), BAD);
        Check.due("patches() as it is: STATE", x.patches(0, 5), STATE);
        Check.due("turned() of an end by no name: STATE", x.turned(1), STATE);
        Check.due("turned() of no block: BAD, STATE", x.turned(4), BAD);
        Check.due("found() of an any: STATE", x.found(5), STATE);
        Check.due("found() of no name: BAD, STATE", x.found(6), BAD);
        x.knows(1, 1);
        Check.due("best(-1), all are known: BAD, NONE", x.best(-1), BAD);
        Check.due("name(6, 8): both are wrong", x.name(6, 8), BAD);
        Check.due("block(4, 9): both are wrong", x.block(4, 9), BAD);
    }
}
