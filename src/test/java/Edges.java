import java.util.List;
import java.util.stream.IntStream;

/**
 * What the tests of edges share. Each of them names the sentence of the document that it looks at
 * (promise(..) or terms(..)), and asks just inside and just outside of it.
 */
abstract class Edges {
    static final int UNKNOWN = -1, OUTSIDE = -2, STATE = -3, FULL = -4, NONE = -9;
    static final int LEAST = Integer.MIN_VALUE, MOST = Integer.MAX_VALUE;

    interface Made {
        CharcoalFromAHearth make();
    }

    interface Call {
        long on(CharcoalFromAHearth x);
    }

    interface CallWith {
        long on(CharcoalFromAHearth x, int number);
    }

    private final Checks checks;
    private final Document document;
    private String sentence = "";

    Edges(Checks checks, Document document) {
        this.checks = checks;
        this.document = document;
    }

    abstract void run();

    void promise(int number, String words) {
        sentence("Promise " + number, words);
    }

    void terms(int group, String words) {
        sentence("Terms " + group, words);
    }

    void whatItIs(String words) {
        sentence("What it is", words);
    }

    private void sentence(String section, String words) {
        sentence = section + ", \"" + words + "\": ";
        checks.due(sentence + "stands in the document", document.quotes(section, words) ? 1 : 0, 1);
    }

    void due(String call, long got, long want) {
        checks.due(sentence + call, got, want);
    }

    /** The call is refused, and behind it all answers are those of an object that was not asked. */
    void refused(Made made, String call, int want, Call by) {
        CharcoalFromAHearth asked = made.make();
        due(call, by.on(asked), want);
        List<Long> got = Samples.answers(asked);
        List<Long> unasked = Samples.answers(made.make());
        int first = 0;
        while (first < unasked.size() - 1 && got.get(first).equals(unasked.get(first))) {
            first++;
        }
        due("behind " + call + " answer " + first, got.get(first), unasked.get(first));
    }

    void refusedEach(int[] numbers, Made made, String call, int want, CallWith by) {
        for (int number : numbers) {
            refused(made, call + " with " + number, want, x -> by.on(x, number));
        }
    }

    /** Just outside; NONE; what a byte or a short would wrap around to the least; the ends of int. */
    static int[] beyond(int least, int most) {
        return IntStream.of(least - 1, most + 1, NONE, least + 256, least + 65536, most - 65536, LEAST, MOST)
            .filter(number -> number < least || number > most).toArray();
    }

    static CharcoalFromAHearth withLayers(CharcoalFromAHearth x, int layers) {
        for (int layer = 0; layer < layers; layer++) {
            x.layer();
        }
        return x;
    }

    static CharcoalFromAHearth layers(int layers) {
        return withLayers(new CharcoalFromAHearth(), layers);
    }

    static void counts(CharcoalFromAHearth x, int layer, int... counts) {
        for (int sort = 0; sort < counts.length; sort++) {
            x.count(layer, sort, counts[sort]);
        }
    }

    static CharcoalFromAHearth withRow(int... crumbs) {
        CharcoalFromAHearth x = new CharcoalFromAHearth();
        for (int crumb : crumbs) {
            x.crumb(crumb);
        }
        return x;
    }

    /** A fraction that is told as upper by lower. */
    void fraction(String call, long upper, long lower, long wantUpper, long wantLower) {
        due(call + ", above", upper, wantUpper);
        due(call + ", below", lower, wantLower);
    }

    void share(CharcoalFromAHearth x, int layer, int sort, long upper, long lower) {
        fraction("share(" + layer + ", " + sort + ")", x.share(layer, sort, true), x.share(layer, sort, false), upper, lower);
    }

    void chance(CharcoalFromAHearth x, int layer, int way, long upper, long lower) {
        fraction("chance(" + layer + ", " + way + ")", x.chance(layer, way, true), x.chance(layer, way, false), upper, lower);
    }

    void odds(CharcoalFromAHearth x, int layer, int way, long upper, long lower) {
        fraction("odds(" + layer + ", " + way + ")", x.odds(layer, way, true), x.odds(layer, way, false), upper, lower);
    }

    void far(CharcoalFromAHearth x, int layer, long upper, long lower) {
        fraction("far(" + layer + ")", x.far(layer, true), x.far(layer, false), upper, lower);
    }
}
