import java.util.ArrayList;
import java.util.Arrays;
import java.util.List;
import java.util.function.ToIntFunction;

/** 'Terms', what is done and undone, and of part 3 BEST, IMAGES: each sentence at its edges. */
public final class DeedEdgesTest {
    private static final int BAD = -1, STATE = -2, NONE = -9, ANY = 2;
    private static final int LOW = Integer.MIN_VALUE, HIGH = Integer.MAX_VALUE;

    /** An INPUT (1) chooses between 1 and 2, which are joined (4), 5 more is returned (5). */
    private static final String DIAMOND = "b;k5;i;q1 1 2;b;k1;g3;b;k2;g3;b;j1 2 2 3;o4+0;z5;";

    /** A run of calls, so that objects behind the same calls can be made again and again. */
    private interface Deed extends ToIntFunction<FlowConstants> {
    }

    private DeedEdgesTest() {
    }

    public static void main(String[] args) {
        known();
        patched();
        turned();
        undoneEach();
        undoneTen();
        undoneOldestOfEachKind();
        undoneCountsWhatChangedNothing();
        bestOfThoseNotKnown();
        bestAsGiven();
        bestOfNone();
        imagesKeepNow();
        imagesKeepNumbers();
        imagesKeepNothingElse();
        imagesAreTwo();
        nothingUndoneBehindBack();
        readAnew();
        readAnewWithFewer();
        readOneBehindTheOther();
        callsAtMost();
        Check.end("DeedEdgesTest");
    }

    private static List<ToIntFunction<FlowConstants>> read(String text, Deed... deeds) {
        List<ToIntFunction<FlowConstants>> calls = new ArrayList<>();
        calls.add(x -> Check.type(x, text).program());
        calls.addAll(List.of(deeds));
        return calls;
    }

    private static void known() {
        Check.says("KNOWN (or not any more), GIVEN: an INPUT");
        for (int v : new int[] {LOW, -1, 0, 1, 999, 1000, HIGH}) {
            FlowConstants x = Check.read(DIAMOND, 6);
            Check.asked("gives(1, v)", x, x.gives(1, v), 1, 0);
            Check.asked("what it was given as", x, x.gives(1, 3), 1, v);
            Check.due("knows(1, v)", x.knows(1, v), 5);
            Check.asked("found(1)", x, x.found(1), 1, v);
            Check.due("forgets(1)", x.forgets(1), 3);
            Check.asked("as given again", x, x.last(1), 1, 3);
        }
    }

    private static void patched() {
        Check.says("PATCHED: a NUMBER is another one");
        FlowConstants x = Check.read("b;k5;k5;o0+1;z2;", 3);
        Check.due("patches(0, 999)", x.patches(0, 999), 5);
        Check.asked("that one", x, x.found(0), 1, 999);
        Check.asked("no other one", x, x.found(1), 1, 5);
        Check.asked("what is made of it", x, x.found(2), 1, 1004);
        Check.asked("in a run, too", x, x.run(), 0, 1004);
        Check.due("name(0, 1)", x.name(0, 1), 0);
    }

    private static void turned() {
        Check.says("TURNED: an END by a NAME goes the other way round");
        FlowConstants x = Check.read("b;i;q0 1 2;b;q0 3 2;b;z0;b;z0;", 1);
        x.gives(0, 1);
        Check.due("visits(3)", x.visits(3), 1);
        Check.due("turned(1)", x.turned(1), 4);
        Check.due("visits(3), turned", x.visits(3), 0);
        Check.due("visits(2), turned", x.visits(2), 1);
        Check.due("no other end is", x.block(0, 4), 1);
        Check.due("block(1, 4)", x.block(1, 4), 2);
        Check.due("block(1, 5)", x.block(1, 5), 3);
        Check.due("by the same name", x.block(1, 3), 0);
        Check.due("edges", x.count(2), 4);
        x.knows(0, 0);
        Check.due("turned(0)", x.turned(0), 3);
        Check.due("by 0, turned", x.visits(3), 1);
        Check.due("twice: as it was", x.turned(1), 3);
        Check.due("block(1, 4)", x.block(1, 4), 3);
    }

    /** Each way of being UNDONE, from as told and from what was done before. */
    private static void undoneEach() {
        Check.says("UNDONE: the latest KNOWN, not KNOWN, GIVEN, PATCHED, TURNED: all is as ahead of it");
        Deed[] deeds = {x -> x.knows(1, 4), x -> x.knows(1, 0), x -> x.forgets(1), x -> x.gives(1, 8),
            x -> x.gives(1, LOW), x -> x.patches(0, 9), x -> x.patches(3, 0), x -> x.turned(0)};
        Deed[] earlier = {x -> x.knows(1, -7), x -> x.gives(1, 3), x -> x.patches(0, 6), x -> x.turned(0)};
        for (int before = 0; before <= earlier.length; before++) {
            List<ToIntFunction<FlowConstants>> calls = read(DIAMOND);
            for (int i = 0; i < before; i++) {
                calls.add(earlier[i]);
            }
            List<Integer> ahead = Sight.of(asking(calls));
            for (int i = 0; i < deeds.length; i++) {
                boolean refused = before == 0 && i == 2;
                List<ToIntFunction<FlowConstants>> done = new ArrayList<>(calls);
                done.add(deeds[i]);
                Check.isTrue("seen when done: " + before + ", " + i, refused == Sight.of(asking(done)).equals(ahead));
                done.add(x -> x.undo());
                Check.isTrue("as ahead of it: " + before + ", " + i,
                    refused || Sight.of(asking(done)).equals(ahead));
            }
        }
    }

    /** What asked() tells is made the same, whatever was done. */
    private static List<ToIntFunction<FlowConstants>> asking(List<ToIntFunction<FlowConstants>> calls) {
        List<ToIntFunction<FlowConstants>> all = new ArrayList<>(calls);
        all.add(x -> x.last(2));
        return all;
    }

    private static void undoneTen() {
        Check.says("(10 are known, older ones are lost)");
        for (int deeds = 0; deeds <= 21; deeds++) {
            FlowConstants x = Check.read(DIAMOND, 6);
            for (int v = 1; v <= deeds; v++) {
                x.gives(1, v);
            }
            int more = Math.min(deeds, 10);
            Check.due("count(11)", x.count(11), more);
            int given = deeds;
            while (more > 0) {
                more--;
                given--;
                Check.due("undo()", x.undo(), more);
                Check.asked("given as", x, x.last(1), 1, given);
            }
            Check.due("undo() of none", x.undo(), STATE);
            Check.due("count(11)", x.count(11), 0);
            Check.asked("it stays", x, x.last(1), 1, Math.max(deeds - 10, 0));
        }
    }

    /** Ten others push out the oldest: it stays done. Nine leave it: it is undone. */
    private static void undoneOldestOfEachKind() {
        for (int others = 9; others <= 10; others++) {
            boolean lost = others == 10;
            Check.due("known", oldest(x -> x.knows(1, 4), others).name(1, 5), lost ? 1 : 0);
            FlowConstants x = oldest(c -> c.gives(1, 4), others);
            Check.asked("given", x, x.last(1), 1, lost ? 4 : 0);
            x = oldest(c -> c.patches(0, 4), others);
            Check.asked("patched", x, x.found(0), 1, lost ? 4 : 5);
            Check.due("turned", oldest(c -> c.turned(0), others).block(0, 4), lost ? 2 : 1);
            x = Check.read(DIAMOND, 6);
            x.knows(1, 4);
            x.forgets(1);
            pushAndUndo(x, others);
            Check.due("not known", x.name(1, 5), lost ? 0 : 1);
        }
    }

    private static FlowConstants oldest(Deed deed, int others) {
        FlowConstants x = Check.read(DIAMOND, 6);
        deed.applyAsInt(x);
        pushAndUndo(x, others);
        return x;
    }

    private static void pushAndUndo(FlowConstants x, int others) {
        for (int i = 0; i < others; i++) {
            x.patches(2, 100 + i);
        }
        Check.due("count(11)", x.count(11), 10);
        for (int i = 0; i < 10; i++) {
            x.undo();
        }
        Check.due("the others are undone", x.patches(2, 1), STATE);
    }

    private static void undoneCountsWhatChangedNothing() {
        Check.says("UNDONE: the latest KNOWN .. GIVEN, though it was so");
        FlowConstants x = Check.read(DIAMOND, 6);
        x.knows(1, 4);
        x.knows(1, 4);
        x.gives(1, 0);
        Check.due("count(11)", x.count(11), 3);
        Check.due("given", x.undo(), 2);
        Check.due("known once more", x.undo(), 1);
        Check.due("name(1, 5)", x.name(1, 5), 1);
        Check.due("known", x.undo(), 0);
        Check.due("name(1, 5)", x.name(1, 5), 0);
    }

    private static void bestOfThoseNotKnown() {
        Check.says("BEST: the INPUT of those not KNOWN by which most NAMES more would be ONE or NEVER, "
            + "of several the lowest; how many more");
        FlowConstants x = Check.read("b;i;i;i;o0+0;o1+1;o2+2;z3;", 6);
        best(x, 0, 2);
        x.knows(0, 1);
        best(x, 1, 2);
        x.knows(1, 1);
        best(x, 2, 2);
        x.forgets(0);
        best(x, 0, 2);
        x = Check.read("b;i;i;i;o0+0;o1+1;o4+1;o2+2;z3;", 7);
        best(x, 1, 3);
        x = Check.read("b;" + "i;".repeat(24) + "z0;", 24);
        for (int n = 0; n < 24; n++) {
            best(x, n, 1);
            x.knows(n, 0);
        }
        best(x, NONE, NONE);
        // One alone makes nothing of 2; both would.
        x = Check.read("b;i;i;o0+1;z2;", 3);
        best(x, 0, 1);
        x.knows(1, 5);
        best(x, 0, 2);
    }

    private static void best(FlowConstants x, int name, int more) {
        Check.due("best(0)", x.best(0), name);
        Check.due("best(1)", x.best(1), more);
    }

    private static void bestAsGiven() {
        Check.says("were it KNOWN as it is GIVEN");
        // By 0 three NAMES of BLOCK 1 would be NEVER; else nothing more is found.
        FlowConstants x = Check.read("b;i;i;o1+1;q0 1 2;b;i;o3+3;o3+1;z4;b;z0;", 6);
        best(x, 0, 4);
        for (int v : new int[] {LOW, -1, 1, HIGH}) {
            x.gives(0, v);
            best(x, 1, 2);
        }
        x.gives(0, 0);
        best(x, 0, 4);
        // What would trap is ANY still.
        x = Check.read("b;k1;i;o0/1;i;z2;", 4);
        best(x, 1, 1);
        x.gives(1, 1);
        best(x, 1, 2);
        // An INPUT of a dead BLOCK is NEVER, known or not: 0 more.
        x = Check.read("b;k0;q0 1 2;b;i;z1;b;i;z2;", 3);
        best(x, 2, 1);
        x.knows(2, 1);
        best(x, 1, 0);
    }

    private static void bestOfNone() {
        Check.says("NONE: all are KNOWN, there is none");
        best(new FlowConstants(), NONE, NONE);
        best(Check.read("b;g1;b;g1;", 0), NONE, NONE);
        best(Check.read("b;k1;o0+0;z0;", 2), NONE, NONE);
        FlowConstants x = Check.read("b;i;z0;", 1);
        best(x, 0, 1);
        x.knows(0, 3);
        best(x, NONE, NONE);
        Check.due("best(2)", x.best(2), BAD);
        x.forgets(0);
        best(x, 0, 1);
    }

    private static void imagesKeepNow() {
        Check.says("IMAGES 0, 1 keep NOW (KNOWN, GIVEN, NUMBERS, ENDS)");
        Deed[] deeds = {x -> x.knows(1, 4), x -> x.gives(1, 3), x -> x.patches(0, 6), x -> x.turned(0)};
        for (int image = 0; image <= 1; image++) {
            int kept = image;
            for (Deed deed : deeds) {
                FlowConstants x = Check.read(DIAMOND, 6);
                int[] asTold = nowOf(x);
                x.keep(kept);
                deed.applyAsInt(x);
                int[] done = nowOf(x);
                Check.isTrue("it is another one", !Arrays.equals(asTold, done));
                Check.due("keep of the other one", x.keep(1 - kept), 6);
                Check.due("back(" + kept + ")", x.back(kept), 6);
                Check.isTrue("as it was kept", Arrays.equals(asTold, nowOf(x)));
                Check.due("back of the other one", x.back(1 - kept), 6);
                Check.isTrue("as that was kept", Arrays.equals(done, nowOf(x)));
                Check.due("back(" + kept + ") again", x.back(kept), 6);
                Check.isTrue("an image stays as it is", Arrays.equals(asTold, nowOf(x)));
            }
        }
    }

    private static int[] nowOf(FlowConstants x) {
        x.found(0);
        int number = x.asked();
        x.last(1);
        int input = x.asked();
        return new int[] {x.name(1, 5), input, number, x.block(0, 4), x.block(0, 5)};
    }

    /** Of the last NAME, too: 23 is an INPUT in one program, a NUMBER in the other. */
    private static void imagesKeepNumbers() {
        FlowConstants x = Check.read("b;" + "i;".repeat(24) + "z23;", 24);
        x.knows(23, 3);
        x.gives(23, 5);
        x.keep(0);
        x.knows(23, 4);
        x.gives(23, 6);
        x.keep(1);
        x.back(0);
        Check.asked("known as", x, x.found(23), 1, 3);
        x.forgets(23);
        Check.asked("given as", x, x.last(23), 1, 5);
        x.back(1);
        Check.asked("known as, in the other one", x, x.found(23), 1, 4);
        x.forgets(23);
        Check.asked("given as, in the other one", x, x.last(23), 1, 6);
        x = Check.read("b;" + "i;".repeat(23) + "k7;z23;", 24);
        x.patches(23, 8);
        x.keep(1);
        x.patches(23, 9);
        x.back(1);
        Check.asked("a number", x, x.run(), 0, 8);
    }

    private static void imagesKeepNothingElse() {
        Check.says("IMAGES keep NOW; nothing else");
        FlowConstants x = Check.read(DIAMOND, 6);
        x.patches(0, 7);
        x.found(0);
        Check.type(x, "b;k");
        x.keep(0);
        Check.due("keep() leaves what can be undone", x.count(11), 1);
        Check.due("keep() leaves asked()", x.asked(), 7);
        Check.type(x, "1;z0;");
        x.last(2);
        x.last(1);
        x.last(3);
        Check.due("asked()", x.asked(), 2);
        Check.due("back(0)", x.back(0), 6);
        Check.due("back() leaves asked()", x.asked(), 2);
        Check.due("back() leaves the text", x.count(12), 8);
        Check.due("program()", x.program(), 1);
    }

    private static void imagesAreTwo() {
        Check.says("IMAGES 0, 1");
        FlowConstants x = Check.read(DIAMOND, 6);
        for (int image : new int[] {LOW, -2, -1, 2, 3, HIGH}) {
            Check.due("keep(" + image + ")", x.keep(image), BAD);
            Check.due("back(" + image + ")", x.back(image), BAD);
        }
        Check.due("back(0)", x.back(0), STATE);
        Check.due("back(1)", x.back(1), STATE);
        Check.due("keep(1)", x.keep(1), 6);
        Check.due("back(0), not kept", x.back(0), STATE);
        Check.due("back(1)", x.back(1), 6);
        Check.due("keep(0)", x.keep(0), 6);
        Check.due("back(0)", x.back(0), 6);
        Check.due("back(2), both kept", x.back(2), BAD);
        Check.due("back(-1), both kept", x.back(-1), BAD);
    }

    private static void nothingUndoneBehindBack() {
        Check.says("(nothing can be UNDONE behind back())");
        FlowConstants x = Check.read(DIAMOND, 6);
        x.keep(0);
        for (int v = 1; v <= 12; v++) {
            x.gives(1, v);
        }
        Check.due("back(1) is refused", x.back(1), STATE);
        Check.due("count(11)", x.count(11), 10);
        Check.due("back(0)", x.back(0), 6);
        Check.due("count(11)", x.count(11), 0);
        Check.due("undo()", x.undo(), STATE);
        x.gives(1, 30);
        Check.due("undo() of what was done since", x.undo(), 0);
        Check.asked("as in the image", x, x.last(1), 1, 0);
        Check.due("undo()", x.undo(), STATE);
        Check.due("back(0) though nothing was done", x.back(0), 6);
    }

    private static void readAnew() {
        Check.says("(Read anew: as told, nothing can be UNDONE, IMAGES are gone.)");
        Deed[] deeds = {x -> x.knows(1, 4), x -> x.gives(1, 3), x -> x.patches(0, 6), x -> x.turned(0),
            x -> x.keep(0), x -> x.keep(1)};
        List<Integer> asTold = Sight.of(read(DIAMOND));
        List<ToIntFunction<FlowConstants>> calls = read(DIAMOND, deeds);
        Check.isTrue("not as told", !Sight.of(calls).equals(asTold));
        calls.add(x -> Check.type(x, DIAMOND).program());
        Check.isTrue("as told", Sight.of(calls).equals(asTold));
        calls = read(DIAMOND, deeds);
        List<Integer> before = Sight.of(calls);
        calls.add(x -> Check.type(x, "b;!").program());
        calls.add(x -> x.clear());
        Check.isTrue("a FAULT: nothing changes", Sight.of(calls).equals(before));
    }

    private static void readAnewWithFewer() {
        FlowConstants x = Check.read("b;" + "i;".repeat(17) + "z16;" + "b;z0;".repeat(7), 17);
        x.knows(16, 3);
        Check.due("the last name", x.name(16, 6), 1);
        Check.due("the last block", x.block(7, 0), 0);
        Check.type(x, "b;i;z0;");
        Check.due("program()", x.program(), 1);
        Check.due("names", x.count(0), 1);
        Check.due("blocks", x.count(1), 1);
        for (int n = 1; n <= 16; n++) {
            Check.due("name(" + n + ", 0)", x.name(n, 0), BAD);
            Check.due("knows(" + n + ", 0)", x.knows(n, 0), BAD);
            Check.due("last(" + n + ")", x.last(n), BAD);
        }
        for (int b = 1; b <= 7; b++) {
            Check.due("block(" + b + ", 0)", x.block(b, 0), BAD);
            Check.due("visits(" + b + ")", x.visits(b), BAD);
        }
        Check.due("not known", x.name(0, 6), ANY);
        Check.due("ones", x.count(5), 0);
        Check.due("never", x.count(6), 0);
    }

    /** Whatever was read before, or refused between, a program is as in a new object. */
    private static void readOneBehindTheOther() {
        String[] texts = {DIAMOND, "b;g1;b;g1;", "b;i;z0;", "b;k1;o0-0;z1;b;i;g2;b;j1 2;z3;",
            "b;i;q0 1 2;b;q0 3 4;b;g4;b;g4;b;j1 0 2 0 3 0;z1;", "b;i;i;o0/1;o0%1;z3;b;z0;b;z0;b;z0;"};
        String[] others = {"", "b;i;g1;b;j7 23 6 22 5 21;j7 9;q23 7 6;!", "b;k999;o23^23;o9*9;g7;b;k999;z9;",
            "b;k8;g1;b;g2;b;o0*0;z1;", "b;z0;b;i;z0;b;z0;b;z0;b;z0;"};
        for (String text : texts) {
            List<Integer> asNew = Sight.of(read(text));
            for (String before : texts) {
                for (String other : others) {
                    List<ToIntFunction<FlowConstants>> calls = read(before);
                    calls.add(x -> Check.type(x, other).program());
                    calls.add(x -> x.clear());
                    calls.add(x -> Check.type(x, text).program());
                    Check.isTrue(text + " behind " + before + " and " + other, Sight.of(calls).equals(asNew));
                }
            }
        }
    }

    private static void callsAtMost() {
        Check.says("An object is used for at most 512 calls after it has been made");
        FlowConstants x = Check.read(DIAMOND, 6);
        int calls = DIAMOND.length() + 1;
        int given = 0;
        while (calls < 512 - 4) {
            given++;
            Check.due("gives(1, " + given + ")", x.gives(1, given), 1);
            calls++;
        }
        Check.due("the 509th", x.undo(), 9);
        Check.due("the 510th", x.last(1), 1);
        Check.due("the 511th", x.asked(), given - 1);
        Check.due("the 512th", x.run(), 0);
    }
}
