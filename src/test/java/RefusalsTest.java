import java.util.ArrayList;
import java.util.List;
import java.util.function.ToLongFunction;

/** What is refused changes nothing: behind each refused call all answers are those of an object that was not asked. */
public final class RefusalsTest {
    private static final int UNKNOWN = -1, OUTSIDE = -2, STATE = -3, FULL = -4, NONE = -9;
    private static final Checks CHECKS = new Checks();

    private interface Made {
        CharcoalFromAHearth make();
    }

    public static void main(String[] args) {
        refusedByAny(RefusalsTest::half);
        refusedByAny(RefusalsTest::full);
        refusedByState(RefusalsTest::half);
        refusedByFull(RefusalsTest::full);
        CHECKS.end();
    }

    /** An object with some of everything: six LAYERS alone are as many as can be. */
    private static CharcoalFromAHearth half() {
        CharcoalFromAHearth x = Checks.withWood("S003S115S222S334B03A11U25D04");
        x.write(4, Checks.bytes("S04x"));
        x.way(0, 9, 4, 2, 0);
        x.way(1, 4, 9, NONE, NONE);
        x.way(2, 3, 5, 1, 3);
        for (int layer = 0; layer < 6; layer++) {
            x.layer();
            x.count(layer, layer % 4, 1 + layer);
            x.count(layer, 6, 30 + layer);
        }
        x.count(4, 0, 0);
        x.count(5, 1, 13);
        x.count(3, 5, 1);
        for (int crumb : new int[] {3, 6, 3, 1, 1, 1, 6, 0, 2, 2}) {
            x.crumb(crumb);
        }
        x.twig(0, 9, 9);
        x.twig(1, 8, 8);
        x.twig(3, 1, 50);
        x.beam(1, 50, 100, true);
        x.beam(4, 50, 80, false);
        x.keep(0);
        x.count(0, 3, 9);
        x.twig(4, 1, 40);
        x.beam(0, 1, 60, true);
        return x;
    }

    /** An object of which the text, the layers, the row, the twigs and the beams are full. */
    private static CharcoalFromAHearth full() {
        CharcoalFromAHearth x = half();
        x.wipe();
        Checks.tell(x, "S001S011S021S031S101S111S121S131S201S211S221S231S301S311S321S331");
        while (x.all(2) < 48) {
            x.crumb(4);
        }
        while (x.all(3) < 16) {
            x.twig(2, 5, 5);
        }
        while (x.all(4) < 8) {
            x.beam(3, 5, 90, false);
        }
        return x;
    }

    private static List<Long> answers(CharcoalFromAHearth x) {
        List<Long> answers = new ArrayList<>();
        for (int what = 0; what < 6; what++) {
            answers.add((long) x.all(what));
        }
        answers.add((long) x.fault());
        standing(x, answers);
        for (int way = 0; way < 4; way++) {
            for (int what = 0; what < 4; what++) {
                answers.add((long) x.going(way, what));
            }
            answers.add((long) x.unsaid(way));
            answers.add((long) x.walk(way));
            for (int sort = 0; sort < 4; sort++) {
                answers.add((long) x.gathered(way, sort, sort));
            }
        }
        for (int rule = 0; rule < 3; rule++) {
            for (int n : new int[] {1, 2, 3, 20, 35}) {
                answers.add((long) x.missed(rule, n));
                answers.add((long) x.stop(rule, n));
            }
        }
        answers.add((long) x.next());
        finds(x, answers);
        x.again(1);
        x.again(0);
        finds(x, answers);
        answers.add((long) x.wood());
        standing(x, answers);
        answers.add((long) x.wipe());
        answers.add((long) x.sweep());
        return answers;
    }

    private static void standing(CharcoalFromAHearth x, List<Long> answers) {
        for (int sort = 0; sort < 6; sort++) {
            for (int place = 0; place < 4; place++) {
                answers.add((long) x.stands(sort, place));
            }
            answers.add((long) x.sorted(sort, sort % 3));
        }
        for (int place = 0; place < 4; place++) {
            answers.add((long) x.miles(place));
        }
    }

    private static void finds(CharcoalFromAHearth x, List<Long> answers) {
        for (int layer = 0; layer < 6; layer++) {
            for (int sort = 0; sort <= 6; sort++) {
                answers.add((long) x.counted(layer, sort));
            }
            answers.add((long) x.thins(layer));
            answers.add((long) x.earliest(layer));
            answers.add(x.odds(layer, 1, true));
        }
        for (int beam = 0; beam < 8; beam++) {
            answers.add((long) x.tooOld(beam));
        }
        answers.add((long) x.longest());
        answers.add((long) x.all(3));
    }

    private static void refused(Made made, String call, int want, ToLongFunction<CharcoalFromAHearth> by) {
        CharcoalFromAHearth asked = made.make();
        CHECKS.due(call, by.applyAsLong(asked), want);
        List<Long> got = answers(asked);
        List<Long> due = answers(made.make());
        int first = 0;
        while (first < due.size() - 1 && got.get(first).equals(due.get(first))) {
            first++;
        }
        CHECKS.due("behind " + call + " answer " + first, got.get(first), due.get(first));
    }

    private static void refusedByAny(Made made) {
        for (int no : new int[] {-1, 6, 1000}) {
            refused(made, "stands sort", UNKNOWN, x -> x.stands(no, 0));
            refused(made, "sorted sort", UNKNOWN, x -> x.sorted(no, 9));
            refused(made, "gathered sort", UNKNOWN, x -> x.gathered(0, no, 0));
            refused(made, "fire sort", UNKNOWN, x -> x.fire(0, no, 9));
            refused(made, "share sort", UNKNOWN, x -> x.share(0, no, true));
            refused(made, "lacks sort", UNKNOWN, x -> x.lacks(0, 0, no));
            refused(made, "liked", OUTSIDE, x -> x.way(1, 1, 1, no, 1));
            refused(made, "never", OUTSIDE, x -> x.way(1, 1, 1, 1, no));
            refusedLayer(made, no);
        }
        for (int no : new int[] {-1, 4, 1000}) {
            refused(made, "stands place", UNKNOWN, x -> x.stands(0, no));
            refused(made, "miles", UNKNOWN, x -> x.miles(no));
            refused(made, "way", UNKNOWN, x -> x.way(no, 1, 1, 1, 1));
            refused(made, "going", UNKNOWN, x -> x.going(no, 9));
            refused(made, "going what", OUTSIDE, x -> x.going(0, no));
            refused(made, "gathered way", UNKNOWN, x -> x.gathered(no, 0, 0));
            refused(made, "gathered place", UNKNOWN, x -> x.gathered(0, 0, no));
            refused(made, "fire way", UNKNOWN, x -> x.fire(no, 0, 9));
            refused(made, "unsaid", UNKNOWN, x -> x.unsaid(no));
            refused(made, "walk", UNKNOWN, x -> x.walk(no));
            refused(made, "chance way", UNKNOWN, x -> x.chance(0, no, true));
            refused(made, "odds way", UNKNOWN, x -> x.odds(0, no, true));
            refused(made, "lacks way", UNKNOWN, x -> x.lacks(0, no, 0));
        }
        refusedNumbers(made);
    }

    private static void refusedLayer(Made made, int no) {
        refused(made, "count layer", UNKNOWN, x -> x.count(no, 0, 1));
        refused(made, "counted layer", UNKNOWN, x -> x.counted(no, 0));
        refused(made, "pour", UNKNOWN, x -> x.pour(no));
        refused(made, "share layer", UNKNOWN, x -> x.share(no, 0, true));
        refused(made, "chance layer", UNKNOWN, x -> x.chance(no, 0, true));
        refused(made, "odds layer", UNKNOWN, x -> x.odds(no, 0, true));
        refused(made, "likeliest", UNKNOWN, x -> x.likeliest(no));
        refused(made, "far", UNKNOWN, x -> x.far(no, true));
        refused(made, "lacks layer", UNKNOWN, x -> x.lacks(no, 0, 0));
        refused(made, "twig layer", UNKNOWN, x -> x.twig(no, 1, 1));
        refused(made, "thins", UNKNOWN, x -> x.thins(no));
        refused(made, "beam layer", UNKNOWN, x -> x.beam(no, 1, 1, true));
        refused(made, "earliest", UNKNOWN, x -> x.earliest(no));
    }

    private static void refusedNumbers(Made made) {
        for (int no : new int[] {-1, 0, 9}) {
            refused(made, "write", OUTSIDE, x -> x.write(no, 0));
        }
        for (int no : new int[] {-1, 100}) {
            refused(made, "count", OUTSIDE, x -> x.count(0, 1, no));
            refused(made, "count unsaid", OUTSIDE, x -> x.count(0, 6, no));
            refused(made, "far", OUTSIDE, x -> x.way(0, no, 1, 1, 1));
            refused(made, "much", OUTSIDE, x -> x.way(0, 1, no, 1, 1));
            refused(made, "a", OUTSIDE, x -> x.twig(0, no, 1));
            refused(made, "b", OUTSIDE, x -> x.twig(0, 1, no));
            refused(made, "rule", OUTSIDE, x -> x.stop(no, 1));
            refused(made, "rule of missed", OUTSIDE, x -> x.missed(no, 1));
            refused(made, "n", OUTSIDE, x -> x.stop(0, no));
            refused(made, "n of missed", OUTSIDE, x -> x.missed(0, no));
            refused(made, "sorted what", OUTSIDE, x -> x.sorted(0, no));
            refused(made, "fire what", OUTSIDE, x -> x.fire(0, 0, no));
            refused(made, "all", OUTSIDE, x -> x.all(no));
            refused(made, "count sort", UNKNOWN, x -> x.count(0, no, 1));
            refused(made, "counted sort", UNKNOWN, x -> x.counted(0, no));
            refused(made, "crumb", UNKNOWN, x -> x.crumb(no));
            refused(made, "tooOld", UNKNOWN, x -> x.tooOld(no));
            refused(made, "keep", UNKNOWN, x -> x.keep(no));
            refused(made, "again", UNKNOWN, x -> x.again(no));
        }
        refused(made, "rings 0", OUTSIDE, x -> x.beam(0, 0, 1, true));
        refused(made, "rings 301", OUTSIDE, x -> x.beam(0, 301, 1, true));
        refused(made, "date -1", OUTSIDE, x -> x.beam(0, 1, -1, true));
        refused(made, "date 3001", OUTSIDE, x -> x.beam(0, 1, 3001, false));
        refused(made, "far 10", OUTSIDE, x -> x.way(3, 10, 1, 1, 1));
        refused(made, "much 61", OUTSIDE, x -> x.way(3, 1, 61, 1, 1));
    }

    private static void refusedByState(Made made) {
        refused(made, "wood", STATE, x -> x.wood());
        refused(made, "share", STATE, x -> x.share(4, 0, true));
        refused(made, "chance", STATE, x -> x.chance(5, 0, true));
        refused(made, "odds", STATE, x -> x.odds(5, 0, true));
        refused(made, "odds of none", STATE, x -> x.odds(3, 0, true));
        refused(made, "likeliest", STATE, x -> x.likeliest(5));
        refused(made, "far", STATE, x -> x.far(5, true));
        refused(made, "thins", STATE, x -> x.thins(1));
        refused(made, "again", STATE, x -> x.again(1));
    }

    private static void refusedByFull(Made made) {
        for (int n = 1; n <= 8; n++) {
            int bytes = n;
            refused(made, "write", FULL, x -> x.write(bytes, 0));
        }
        refused(made, "layer", FULL, x -> x.layer());
        refused(made, "crumb", FULL, x -> x.crumb(0));
        refused(made, "crumb unsaid", FULL, x -> x.crumb(6));
        refused(made, "twig", FULL, x -> x.twig(0, 1, 99));
        refused(made, "beam", FULL, x -> x.beam(0, 300, 3000, true));
    }
}
