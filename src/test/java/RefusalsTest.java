import java.util.List;
import java.util.function.ToLongFunction;

/** What is refused changes nothing: behind each refused call all answers are those of an object that was not asked. */
public final class RefusalsTest {
    private static final int UNKNOWN = -1, OUTSIDE = -2, STATE = -3, FULL = -4, NONE = -9;
    private static final Checks CHECKS = new Checks();

    private interface Made {
        CharcoalFromAHearth make();
    }

    public static void main(String[] args) {
        refusedByAny(Samples::half);
        refusedByAny(Samples::full);
        refusedByState(Samples::half);
        refusedByFull(Samples::full);
        CHECKS.end();
    }

    private static void refused(Made made, String call, int want, ToLongFunction<CharcoalFromAHearth> by) {
        CharcoalFromAHearth asked = made.make();
        CHECKS.due(call, by.applyAsLong(asked), want);
        List<Long> got = Samples.answers(asked);
        List<Long> due = Samples.answers(made.make());
        int first = 0;
        while (first < due.size() - 1 && got.get(first).equals(due.get(first))) {
            first++;
        }
        CHECKS.due("behind " + call + " answer " + first, got.get(first), due.get(first));
    }

    private static void refusedByAny(Made made) {
        for (int no : new int[] {-1, 6, 1000}) {
            refused(made, "stands sort", UNKNOWN, x -> x.stands(no, 0));
            refused(made, "sorted sort", UNKNOWN, x -> x.sorted(no, 9));
            refused(made, "gathered sort", UNKNOWN, x -> x.gathered(0, no, 0));
            refused(made, "fire sort", UNKNOWN, x -> x.fire(0, no, 9));
            refused(made, "share sort", UNKNOWN, x -> x.share(0, no, true));
            refused(made, "lacks sort", UNKNOWN, x -> x.lacks(0, 0, no));
            refused(made, "liked", OUTSIDE, x -> x.way(1, 1, 1, no, 1));
            refused(made, "never", OUTSIDE, x -> x.way(1, 1, 1, 1, no));
            refusedLayer(made, no);
        }
        for (int no : new int[] {-1, 4, 1000}) {
            refused(made, "stands place", UNKNOWN, x -> x.stands(0, no));
            refused(made, "miles", UNKNOWN, x -> x.miles(no));
            refused(made, "way", UNKNOWN, x -> x.way(no, 1, 1, 1, 1));
            refused(made, "going", UNKNOWN, x -> x.going(no, 9));
            refused(made, "going what", OUTSIDE, x -> x.going(0, no));
            refused(made, "gathered way", UNKNOWN, x -> x.gathered(no, 0, 0));
            refused(made, "gathered place", UNKNOWN, x -> x.gathered(0, 0, no));
            refused(made, "fire way", UNKNOWN, x -> x.fire(no, 0, 9));
            refused(made, "unsaid", UNKNOWN, x -> x.unsaid(no));
            refused(made, "walk", UNKNOWN, x -> x.walk(no));
            refused(made, "chance way", UNKNOWN, x -> x.chance(0, no, true));
            refused(made, "odds way", UNKNOWN, x -> x.odds(0, no, true));
            refused(made, "lacks way", UNKNOWN, x -> x.lacks(0, no, 0));
        }
        refusedNumbers(made);
    }

    private static void refusedLayer(Made made, int no) {
        refused(made, "count layer", UNKNOWN, x -> x.count(no, 0, 1));
        refused(made, "counted layer", UNKNOWN, x -> x.counted(no, 0));
        refused(made, "pour", UNKNOWN, x -> x.pour(no));
        refused(made, "share layer", UNKNOWN, x -> x.share(no, 0, true));
        refused(made, "chance layer", UNKNOWN, x -> x.chance(no, 0, true));
        refused(made, "odds layer", UNKNOWN, x -> x.odds(no, 0, true));
        refused(made, "likeliest", UNKNOWN, x -> x.likeliest(no));
        refused(made, "far", UNKNOWN, x -> x.far(no, true));
        refused(made, "lacks layer", UNKNOWN, x -> x.lacks(no, 0, 0));
        refused(made, "twig layer", UNKNOWN, x -> x.twig(no, 1, 1));
        refused(made, "thins", UNKNOWN, x -> x.thins(no));
        refused(made, "beam layer", UNKNOWN, x -> x.beam(no, 1, 1, true));
        refused(made, "earliest", UNKNOWN, x -> x.earliest(no));
    }

    private static void refusedNumbers(Made made) {
        for (int no : new int[] {-1, 0, 9}) {
            refused(made, "write", OUTSIDE, x -> x.write(no, 0));
        }
        for (int no : new int[] {-1, 100}) {
            refused(made, "count", OUTSIDE, x -> x.count(0, 1, no));
            refused(made, "count unsaid", OUTSIDE, x -> x.count(0, 6, no));
            refused(made, "far", OUTSIDE, x -> x.way(0, no, 1, 1, 1));
            refused(made, "much", OUTSIDE, x -> x.way(0, 1, no, 1, 1));
            refused(made, "a", OUTSIDE, x -> x.twig(0, no, 1));
            refused(made, "b", OUTSIDE, x -> x.twig(0, 1, no));
            refused(made, "rule", OUTSIDE, x -> x.stop(no, 1));
            refused(made, "rule of missed", OUTSIDE, x -> x.missed(no, 1));
            refused(made, "n", OUTSIDE, x -> x.stop(0, no));
            refused(made, "n of missed", OUTSIDE, x -> x.missed(0, no));
            refused(made, "sorted what", OUTSIDE, x -> x.sorted(0, no));
            refused(made, "fire what", OUTSIDE, x -> x.fire(0, 0, no));
            refused(made, "all", OUTSIDE, x -> x.all(no));
            refused(made, "count sort", UNKNOWN, x -> x.count(0, no, 1));
            refused(made, "counted sort", UNKNOWN, x -> x.counted(0, no));
            refused(made, "crumb", UNKNOWN, x -> x.crumb(no));
            refused(made, "tooOld", UNKNOWN, x -> x.tooOld(no));
            refused(made, "keep", UNKNOWN, x -> x.keep(no));
            refused(made, "again", UNKNOWN, x -> x.again(no));
        }
        refused(made, "rings 0", OUTSIDE, x -> x.beam(0, 0, 1, true));
        refused(made, "rings 301", OUTSIDE, x -> x.beam(0, 301, 1, true));
        refused(made, "date -1", OUTSIDE, x -> x.beam(0, 1, -1, true));
        refused(made, "date 3001", OUTSIDE, x -> x.beam(0, 1, 3001, false));
        refused(made, "far 10", OUTSIDE, x -> x.way(3, 10, 1, 1, 1));
        refused(made, "much 61", OUTSIDE, x -> x.way(3, 1, 61, 1, 1));
    }

    private static void refusedByState(Made made) {
        refused(made, "wood", STATE, x -> x.wood());
        refused(made, "share", STATE, x -> x.share(4, 0, true));
        refused(made, "chance", STATE, x -> x.chance(5, 0, true));
        refused(made, "odds", STATE, x -> x.odds(5, 0, true));
        refused(made, "odds of none", STATE, x -> x.odds(3, 0, true));
        refused(made, "likeliest", STATE, x -> x.likeliest(5));
        refused(made, "far", STATE, x -> x.far(5, true));
        refused(made, "thins", STATE, x -> x.thins(1));
        refused(made, "again", STATE, x -> x.again(1));
    }

    private static void refusedByFull(Made made) {
        for (int n = 1; n <= 8; n++) {
            int bytes = n;
            refused(made, "write", FULL, x -> x.write(bytes, 0));
        }
        refused(made, "layer", FULL, x -> x.layer());
        refused(made, "crumb", FULL, x -> x.crumb(0));
        refused(made, "crumb unsaid", FULL, x -> x.crumb(6));
        refused(made, "twig", FULL, x -> x.twig(0, 1, 99));
        refused(made, "beam", FULL, x -> x.beam(0, 300, 3000, true));
    }
}
