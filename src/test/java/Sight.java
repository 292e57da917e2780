import java.util.ArrayList;
import java.util.List;
import java.util.function.ToIntFunction;

/**
 * All that can be seen of an object that was made by some calls. An object is
 * used for 512 calls at most, so each part is looked at in one made anew.
 */
final class Sight {
    private final List<ToIntFunction<FlowConstants>> calls;
    private final List<Integer> seen = new ArrayList<>();
    private FlowConstants x;

    private Sight(List<ToIntFunction<FlowConstants>> calls) {
        this.calls = calls;
    }

    /** Of an object behind these calls. */
    static List<Integer> of(List<ToIntFunction<FlowConstants>> calls) {
        Sight sight = new Sight(calls);
        sight.seeItself();
        sight.seeText();
        sight.seeWhatIsUndone();
        sight.seeImages();
        return sight.seen;
    }

    private void makeAnew() {
        x = new FlowConstants();
        for (ToIntFunction<FlowConstants> call : calls) {
            call.applyAsInt(x);
        }
    }

    private void seeItself() {
        makeAnew();
        seen.add(x.asked());
        seen.add(x.count(11));
        seeNow();
    }

    private void seeText() {
        makeAnew();
        seen.add(x.count(12));
        seen.add(x.program());
        seen.add(x.count(0));
        makeAnew();
        seen.add(x.clear());
    }

    private void seeWhatIsUndone() {
        makeAnew();
        int more = x.undo();
        for (int i = 0; i <= 10 && more >= 0; i++) {
            seen.add(more);
            seen.add(x.asked());
            seeWhatWasDone();
            more = x.undo();
        }
        seen.add(more);
        makeAnew();
        for (int i = 0; i <= 10; i++) {
            x.undo();
        }
        seeNow();
    }

    private void seeImages() {
        for (int image = 0; image <= 1; image++) {
            makeAnew();
            seen.add(x.back(image));
            seen.add(x.asked());
            seen.add(x.count(11));
            seeNow();
        }
    }

    private void seeNow() {
        for (int what = 0; what <= 10; what++) {
            seen.add(x.count(what));
        }
        int names = x.count(0);
        int blocks = x.count(1);
        for (int n = 0; n < names; n++) {
            for (int what = 0; what <= 7; what++) {
                seen.add(x.name(n, what));
            }
        }
        for (int b = 0; b < blocks; b++) {
            for (int what = 0; what <= 8; what++) {
                seen.add(x.block(b, what));
            }
            seen.add(x.visits(b));
        }
        seen.add(x.best(0));
        seen.add(x.best(1));
        seen.add(x.run());
        seen.add(x.asked());
        seeNumbers(names);
    }

    /** The numbers that are KNOWN hide those that are GIVEN: these are asked for by gives(). */
    private void seeNumbers(int names) {
        for (int n = 0; n < names; n++) {
            seen.add(x.last(n));
            seen.add(x.asked());
            seen.add(x.found(n));
            seen.add(x.asked());
        }
        for (int n = 0; n < names; n++) {
            seen.add(x.gives(n, 0));
            seen.add(x.asked());
        }
    }

    private void seeWhatWasDone() {
        int names = x.count(0);
        int blocks = x.count(1);
        for (int n = 0; n < names; n++) {
            seen.add(x.name(n, 5));
            seen.add(x.last(n));
            seen.add(x.asked());
        }
        for (int b = 0; b < blocks; b++) {
            seen.add(x.block(b, 4));
        }
    }
}
