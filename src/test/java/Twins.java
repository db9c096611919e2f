import java.util.ArrayList;
import java.util.List;
import java.util.NoSuchElementException;
import java.util.function.Supplier;
import java.util.function.ToLongFunction;

/**
 * "What is refused answers as told and changes nothing": of two objects made by the same calls one is asked, and all
 * that can be asked of both afterwards (days undone, the image and the tape, too) must be alike.
 */
final class Twins {
    /** How a call that throws NoSuchElementException is told. */
    static final long THROWN = Long.MIN_VALUE;

    private Twins() {
    }

    /** A call that is refused, or only asks: its answer is due, and nothing is changed by it. */
    static void same(String call, Supplier<NeighbourSoup> made, ToLongFunction<NeighbourSoup> ask, long want) {
        NeighbourSoup asked = made.get();
        NeighbourSoup other = made.get();
        Check.due(call, answer(asked, ask), want);
        List<Long> got = everything(asked);
        List<Long> due = everything(other);
        boolean alike = got.equals(due);
        Check.due(call + " leaves all as it was", alike, true);
        if (!alike) {
            System.out.println("  after it " + got + "\n  without  " + due);
        }
    }

    /** A question: asked again it has the same answer, and nothing is changed by it. */
    static void apart(String call, Supplier<NeighbourSoup> made, ToLongFunction<NeighbourSoup> ask) {
        NeighbourSoup first = made.get();
        long want = answer(first, ask);
        Check.due(call + " again", answer(first, ask), want);
        same(call, made, ask, want);
    }

    static long answer(NeighbourSoup x, ToLongFunction<NeighbourSoup> ask) {
        try {
            return ask.applyAsLong(x);
        } catch (NoSuchElementException e) {
            return THROWN;
        }
    }

    static long bit(boolean answer) {
        return answer ? 1 : 0;
    }

    /** Few enough calls to stay below the 512 that an object is used for. */
    private static List<Long> everything(NeighbourSoup x) {
        List<Long> all = new ArrayList<>();
        all.add((long) x.fault(0));
        all.add((long) x.fault(1));
        state(x, all);
        for (int i = 0; i <= 30; i++) {
            all.add((long) x.undo());
            if (i % 10 == 1) {
                stores(x, all);
            }
        }
        all.add((long) x.back());
        state(x, all);
        all.add((long) x.undo());
        all.add((long) x.text(1));
        all.add((long) x.text(0));
        state(x, all);
        Check.tape(x, "pa7b3;h");
        all.add((long) x.text(0));
        for (int liking = 0; liking < 4; liking++) {
            all.add(bit(x.liking(liking)));
            all.add((long) x.meal(0));
        }
        return all;
    }

    private static void state(NeighbourSoup x, List<Long> all) {
        for (int what = 0; what <= 10; what++) {
            all.add((long) x.count(what));
        }
        int houses = x.count(0);
        for (int house = 0; house < houses; house++) {
            for (int what = 5; what <= 9; what++) {
                all.add((long) x.house(house, what));
            }
            all.add((long) x.meal(house));
        }
        all.add((long) x.left());
        stores(x, all);
    }

    private static void stores(NeighbourSoup x, List<Long> all) {
        int houses = x.count(0);
        for (int house = 0; house < houses; house++) {
            for (int stuff = 0; stuff < 5; stuff++) {
                all.add((long) x.house(house, stuff));
            }
            all.add((long) x.eaten(house));
        }
    }
}
