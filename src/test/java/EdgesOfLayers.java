/** Group 3 of the Terms; promises 15 to 23. */
final class EdgesOfLayers extends Edges {
    EdgesOfLayers(Checks checks, Document document) {
        super(checks, document);
    }

    @Override
    void run() {
        layersAreSix();
        layersThatAreNot();
        layersThatAreNoMore();
        countsOfSorts();
        countsOfUnsaid();
        theRow();
        theRowBecomesALayer();
        rule0();
        rule1();
        rule2();
        missedSorts();
        shareOfPieces();
        shareOfManyPieces();
        promise15();
        promise16();
        promise17();
        promise18();
        promise19();
        promise20();
        promise21();
        promise22();
        promise23();
    }

    private static int[] many(int number, int crumb) {
        int[] crumbs = new int[number];
        java.util.Arrays.fill(crumbs, crumb);
        return crumbs;
    }

    /** A row of so many crumbs of one SORT, and others behind them. */
    private static CharcoalFromAHearth rowOf(int number, int crumb, int... behind) {
        CharcoalFromAHearth x = withRow(many(number, crumb));
        for (int other : behind) {
            x.crumb(other);
        }
        return x;
    }

    // ---- group 3

    private void layersAreSix() {
        terms(3, "LAYERS 0, 1, .. (6 at most, the lowest first)");
        CharcoalFromAHearth x = new CharcoalFromAHearth();
        for (int layer = 0; layer < 6; layer++) {
            due("layer()", x.layer(), layer);
            due("LAYERS", x.all(1), layer + 1);
            due("it is there", x.counted(layer, 0), 0);
            due("the next is not", x.counted(layer + 1, 0), UNKNOWN);
        }
        refused(Samples::half, "the seventh", FULL, CharcoalFromAHearth::layer);
        x = layers(3);
        x.beam(0, 1, 100, true);
        due("0 is the lowest", x.earliest(2), 100);
        x.beam(2, 1, 200, true);
        due("2 is above it", x.earliest(0), 100);
    }

    private void layersThatAreNot() {
        terms(3, "LAYERS 0, 1, ..");
        for (int layers = 0; layers <= 6; layers += 3) {
            int there = layers;
            Made made = () -> layers(there);
            int[] no = beyond(0, there - 1);
            refusedEach(no, made, "count", UNKNOWN, (x, layer) -> x.count(layer, 0, 1));
            refusedEach(no, made, "counted", UNKNOWN, (x, layer) -> x.counted(layer, 0));
            refusedEach(no, made, "pour", UNKNOWN, (x, layer) -> x.pour(layer));
            refusedEach(no, made, "share", UNKNOWN, (x, layer) -> x.share(layer, 0, true));
            refusedEach(no, made, "chance", UNKNOWN, (x, layer) -> x.chance(layer, 0, true));
            refusedEach(no, made, "odds", UNKNOWN, (x, layer) -> x.odds(layer, 0, true));
            refusedEach(no, made, "likeliest", UNKNOWN, (x, layer) -> x.likeliest(layer));
            refusedEach(no, made, "far", UNKNOWN, (x, layer) -> x.far(layer, false));
            refusedEach(no, made, "lacks", UNKNOWN, (x, layer) -> x.lacks(layer, 0, 0));
            refusedEach(no, made, "twig", UNKNOWN, (x, layer) -> x.twig(layer, 1, 1));
            refusedEach(no, made, "thins", UNKNOWN, (x, layer) -> x.thins(layer));
            refusedEach(no, made, "beam", UNKNOWN, (x, layer) -> x.beam(layer, 1, 1, false));
            refusedEach(no, made, "earliest", UNKNOWN, (x, layer) -> x.earliest(layer));
        }
    }

    /** Three LAYERS with some of everything, of which one was kept. */
    private static CharcoalFromAHearth oneOfThree() {
        CharcoalFromAHearth x = withLayers(Checks.withWood("S009"), 1);
        x.keep(0);
        withLayers(x, 2);
        x.crumb(0);
        for (int layer = 0; layer < 3; layer++) {
            x.count(layer, 0, 1);
            x.twig(layer, 1, 9 - layer);
            x.beam(layer, 1, 100, true);
        }
        x.again(0);
        return x;
    }

    private void layersThatAreNoMore() {
        terms(3, "LAYERS 0, 1, ..");
        int[] no = {1, 2, 3};
        Made made = EdgesOfLayers::oneOfThree;
        refusedEach(no, made, "count", UNKNOWN, (x, layer) -> x.count(layer, 0, 1));
        refusedEach(no, made, "counted", UNKNOWN, (x, layer) -> x.counted(layer, 0));
        refusedEach(no, made, "pour", UNKNOWN, (x, layer) -> x.pour(layer));
        refusedEach(no, made, "share", UNKNOWN, (x, layer) -> x.share(layer, 0, true));
        refusedEach(no, made, "chance", UNKNOWN, (x, layer) -> x.chance(layer, 0, true));
        refusedEach(no, made, "odds", UNKNOWN, (x, layer) -> x.odds(layer, 0, true));
        refusedEach(no, made, "likeliest", UNKNOWN, (x, layer) -> x.likeliest(layer));
        refusedEach(no, made, "far", UNKNOWN, (x, layer) -> x.far(layer, false));
        refusedEach(no, made, "lacks", UNKNOWN, (x, layer) -> x.lacks(layer, 0, 0));
        refusedEach(no, made, "twig", UNKNOWN, (x, layer) -> x.twig(layer, 1, 1));
        refusedEach(no, made, "thins", UNKNOWN, (x, layer) -> x.thins(layer));
        refusedEach(no, made, "beam", UNKNOWN, (x, layer) -> x.beam(layer, 1, 1, false));
        refusedEach(no, made, "earliest", UNKNOWN, (x, layer) -> x.earliest(layer));
        CharcoalFromAHearth x = oneOfThree();
        due("LAYER 1 anew", x.layer(), 1);
        due("without COUNTS", x.counted(1, 0), 0);
        due("without TWIGS", x.longest(), 0);
        due("without BEAMS", x.earliest(1), NONE);
    }

    private void countsOfSorts() {
        terms(3, "have COUNTS of SORTS SAID (0 to 99 each),");
        CharcoalFromAHearth x = layers(2);
        for (int sort = 0; sort < 6; sort++) {
            due("99 of " + sort, x.count(0, sort, 99), 0);
            due("they are", x.counted(0, sort), 99);
        }
        for (int sort = 0; sort < 6; sort++) {
            due("of each", x.counted(0, sort), 99);
            due("none in another LAYER", x.counted(1, sort), 0);
            share(x, 0, sort, 1, 6);
            due("0 of " + sort, x.count(0, sort, 0), 99);
            due("it is none", x.counted(0, sort), 0);
            due("99 again", x.count(0, sort, 99), 0);
        }
        for (int each = 0; each < 6; each++) {
            int sort = each;
            refusedEach(beyond(0, 99), Samples::half, "of " + sort, OUTSIDE, (y, v) -> y.count(5, sort, v));
        }
    }

    private void countsOfUnsaid() {
        terms(3, "and UNSAID (0 to 99).");
        CharcoalFromAHearth x = layers(2);
        due("99", x.count(0, 6, 99), 0);
        due("they are", x.counted(0, 6), 99);
        due("0", x.count(0, 6, 0), 99);
        due("they are none", x.counted(0, 6), 0);
        due("99 again", x.count(0, 6, 99), 0);
        due("no SORT has them", x.counted(0, 5), 0);
        due("nor another LAYER", x.counted(1, 6), 0);
        due("no COUNTS of SORTS", x.share(0, 0, true), STATE);
        refusedEach(beyond(0, 99), Samples::half, "UNSAID", OUTSIDE, (y, v) -> y.count(5, 6, v));
    }

    private void theRow() {
        terms(3, "A row of crumbs as they are looked at (SORTS, or 6 that is UNSAID; 48 at most) is THE ROW;");
        for (int crumb = 0; crumb <= 6; crumb += 6) {
            CharcoalFromAHearth x = new CharcoalFromAHearth();
            for (int length = 1; length <= 48; length++) {
                due("crumb(" + crumb + ")", x.crumb(crumb), length);
            }
            due("the 49th", x.crumb(crumb), FULL);
            due("48 stay", x.all(2), 48);
        }
        int[] numbers = {48};
        refusedEach(numbers, () -> rowOf(48, 6), "a SORT when full of", FULL, (x, no) -> x.crumb(0));
        refusedEach(numbers, () -> rowOf(48, 0), "UNSAID when full of", FULL, (x, no) -> x.crumb(6));
        refusedEach(beyond(0, 6), () -> rowOf(47, 1), "crumb", UNKNOWN, (x, crumb) -> x.crumb(crumb));
        refusedEach(beyond(0, 6), () -> rowOf(48, 1), "crumb when full", UNKNOWN, (x, crumb) -> x.crumb(crumb));
        CharcoalFromAHearth x = rowOf(48, 1);
        due("swept", x.sweep(), 48);
        due("there is room", x.crumb(2), 1);
    }

    private void theRowBecomesALayer() {
        terms(3, "it may become a LAYER.");
        CharcoalFromAHearth x = withLayers(rowOf(47, 5, 6), 1);
        due("of one SORT", x.pour(0), 1);
        due("47 of it", x.counted(0, 5), 47);
        due("and one UNSAID", x.counted(0, 6), 1);
        due("it is no new LAYER", x.all(1), 1);
        refused(() -> rowOf(3, 5), "none is there", UNKNOWN, y -> y.pour(0));
    }

    private void rule0() {
        terms(3, "TO STOP, by THE ROW: by RULE 0 behind the first crumb at which n in a row are no new SORT"
            + " (UNSAID ones are none);");
        due("the first of a SORT is new", rowOf(1, 0).stop(0, 1), NONE);
        due("the second is not", rowOf(2, 0).stop(0, 1), 2);
        due("UNSAID is not", rowOf(1, 6).stop(0, 1), 1);
        due("one of two", rowOf(2, 0).stop(0, 2), NONE);
        due("two of two", rowOf(3, 0).stop(0, 2), 3);
        due("all six are new", withRow(0, 1, 2, 3, 4, 5).stop(0, 1), NONE);
        due("then none is", withRow(0, 1, 2, 3, 4, 5, 0).stop(0, 1), 7);
        CharcoalFromAHearth x = withRow(3, 3, 6, 5, 6, 3, 5, 0, 6, 6, 6, 6);
        due("1", x.stop(0, 1), 2);
        due("2, one of them UNSAID", x.stop(0, 2), 3);
        due("3, behind a new one", x.stop(0, 3), 7);
        due("4, UNSAID ones alone", x.stop(0, 4), 12);
        due("5", x.stop(0, 5), NONE);
        due("asked again", x.stop(0, 3), 7);
        x = withRow(6, 6, 6, 6, 3);
        due("four UNSAID", x.stop(0, 4), 4);
        due("asked again, from the first on", x.stop(0, 4), 4);
        due("and fewer of them", x.stop(0, 2), 2);
        due("UNSAID ones ahead of a new SORT", withRow(6, 6, 1, 6, 6).stop(0, 3), NONE);
        due("and a row of them", withRow(6, 6, 1, 6, 6).stop(0, 2), 2);
        due("47 behind the first", rowOf(48, 2).stop(0, 47), 48);
        due("48 behind the first", rowOf(48, 2).stop(0, 48), NONE);
        due("48 UNSAID", rowOf(48, 6).stop(0, 48), 48);
        due("47 UNSAID", rowOf(47, 6).stop(0, 48), NONE);
        due("none looked at", rowOf(0, 0).stop(0, 1), NONE);
    }

    private void rule1() {
        terms(3, "by RULE 1 behind the first at which n crumbs are SAID;");
        CharcoalFromAHearth x = withRow(6, 0, 6, 6, 5, 5, 6, 0, 6);
        due("1", x.stop(1, 1), 2);
        due("2", x.stop(1, 2), 5);
        due("3", x.stop(1, 3), 6);
        due("4", x.stop(1, 4), 8);
        due("5", x.stop(1, 5), NONE);
        due("the first alone", rowOf(1, 0).stop(1, 1), 1);
        due("UNSAID alone", rowOf(48, 6).stop(1, 1), NONE);
        due("48 of 48", rowOf(48, 5).stop(1, 48), 48);
        due("48 of 47", rowOf(47, 5, 6).stop(1, 48), NONE);
        due("47 of 47", rowOf(47, 5, 6).stop(1, 47), 47);
        due("none looked at", rowOf(0, 0).stop(1, 1), NONE);
    }

    private void rule2() {
        terms(3, "by RULE 2 behind the first at which the SORT that is most is n more than the next one"
            + " (0, if there is but one).");
        due("one is one more than 0", rowOf(1, 0).stop(2, 1), 1);
        due("two are", rowOf(2, 5).stop(2, 2), 2);
        due("one is not two more", rowOf(1, 0).stop(2, 2), NONE);
        due("UNSAID is no SORT", rowOf(48, 6).stop(2, 1), NONE);
        due("nor the next one", withRow(6, 6, 6, 1, 1).stop(2, 2), 5);
        CharcoalFromAHearth x = withRow(6, 2, 4, 4, 2, 6, 4, 4, 6, 4, 0, 4);
        due("1", x.stop(2, 1), 2);
        due("2", x.stop(2, 2), 8);
        due("3", x.stop(2, 3), 10);
        due("4", x.stop(2, 4), 12);
        due("5", x.stop(2, 5), NONE);
        due("of like ones none is more", withRow(0, 1, 1, 0, 2, 2).stop(2, 2), NONE);
        due("the next one, not the first", withRow(0, 1, 2, 2, 1, 2, 2).stop(2, 2), 7);
        due("the next one, not the last", withRow(5, 5, 0, 5, 0, 1, 5).stop(2, 3), NONE);
        due("the most may come last", withRow(0, 0, 0, 5, 5, 5, 5, 5, 5, 5).stop(2, 4), 10);
        due("48 of one", rowOf(48, 3).stop(2, 48), 48);
        due("47 of one, and another", rowOf(47, 3, 0).stop(2, 48), NONE);
        due("47 of one, and UNSAID", rowOf(47, 3, 6).stop(2, 47), 47);
        due("none looked at", rowOf(0, 0).stop(2, 1), NONE);
    }

    private void missedSorts() {
        terms(3, "MISSED by it: SORTS of THE ROW that come later alone.");
        due("all others", withRow(0, 5, 4, 3, 2, 1).missed(1, 1), 0b111110);
        due("SORT 0", withRow(5, 0).missed(1, 1), 0b000001);
        due("SORT 5", withRow(0, 5).missed(1, 1), 0b100000);
        due("behind the last", withRow(0, 5).missed(1, 2), 0);
        due("at the stop is not behind it", withRow(0, 5, 1).missed(1, 2), 0b000010);
        due("UNSAID is no SORT", withRow(0, 6, 6).missed(1, 1), 0);
        due("ahead and later", withRow(0, 1, 0, 1, 0).missed(1, 2), 0);
        due("each once", withRow(0, 1, 1, 1).missed(1, 1), 0b000010);
        due("by RULE 0", withRow(2, 2, 3).missed(0, 1), 0b001000);
        due("by RULE 2", withRow(2, 2, 3, 4).missed(2, 2), 0b011000);
    }

    private static long divisor(long a, long b) {
        return b == 0 ? a : divisor(b, a % b);
    }

    private void shareOfPieces() {
        terms(3, "A SORT's SHARE of pieces in a LAYER: what its COUNT may have been: COUNT times 100, by k times"
            + " (10 less x of U) times (10 less x of A); that by those of all SORTS together.");
        for (int k = 1; k <= 9; k++) {
            for (int u = 0; u <= 9; u++) {
                for (int a = 0; a <= 9; a++) {
                    CharcoalFromAHearth x = layers(1);
                    Checks.tell(x, "B5" + k + "U5" + u + "A5" + a);
                    x.wood();
                    counts(x, 0, 1, 0, 0, 0, 0, 1, 99);
                    // SORT 0 is 100 by 2 times 10 times 10.
                    long by = (long) k * (10 - u) * (10 - a);
                    long common = divisor(200, 200 + by);
                    share(x, 0, 5, 200 / common, (200 + by) / common);
                }
            }
        }
        CharcoalFromAHearth x = layers(1);
        x.count(0, 5, 1);
        share(x, 0, 5, 1, 1);
        share(x, 0, 0, 0, 1);
        counts(x, 0, 99);
        share(x, 0, 0, 99, 100);
        share(x, 0, 5, 1, 100);
        share(x, 0, 4, 0, 1);
    }

    private void shareOfManyPieces() {
        terms(3, "that by those of all SORTS together.");
        String wood = "B07U03A03B19U11A11B25U25A25B38U32A32B41U49A49";
        CharcoalFromAHearth x = withLayers(Checks.withWood(wood), 1);
        for (int v = 1; v <= 99; v += 98) {
            counts(x, 0, v, v, v, v, v, v);
            // v times 100 by 343, by 729, by 125, by 512, by 1 and by 200.
            share(x, 0, 4, 16003008000L, 16310910979L);
        }
        counts(x, 0, 0, 0, 0, 0, 99, 1);
        share(x, 0, 4, 19800, 19801);
        share(x, 0, 5, 1, 19801);
    }

    // ---- promises 15 to 23

    private void promise15() {
        promise(15, "A LAYER without COUNTS: its number. FULL: 6.");
        CharcoalFromAHearth x = new CharcoalFromAHearth();
        for (int layer = 0; layer < 6; layer++) {
            due("its number", x.layer(), layer);
            for (int sort = 0; sort <= 6; sort++) {
                due("without COUNTS", x.counted(layer, sort), 0);
            }
            due("without COUNTS of SORTS", x.share(layer, 0, true), STATE);
            counts(x, layer, 9, 9, 9, 9, 9, 9, 9);
        }
        due("a seventh", x.layer(), FULL);
        due("an eighth", x.layer(), FULL);
        due("six", x.all(1), 6);
        due("the last has its COUNTS", x.counted(5, 6), 9);
        refused(Samples::half, "a seventh", FULL, CharcoalFromAHearth::layer);
        x = layers(5);
        x.keep(0);
        due("the sixth", x.layer(), 5);
        x.count(5, 3, 7);
        due("full", x.layer(), FULL);
        x.again(0);
        due("the sixth anew", x.layer(), 5);
        due("without COUNTS", x.counted(5, 3), 0);
        due("full again", x.layer(), FULL);
    }

    private void promise16() {
        promise(16, "A COUNT of a LAYER (sort 6: UNSAID): what it was. UNKNOWN: layer, sort; OUTSIDE.");
        CharcoalFromAHearth x = layers(2);
        for (int sort = 0; sort <= 6; sort++) {
            due("at first", x.count(1, sort, 99), 0);
            due("99", x.count(1, sort, sort), 99);
            due("as it was", x.count(1, sort, sort), sort);
        }
        for (int sort = 0; sort <= 6; sort++) {
            due("each its own", x.counted(1, sort), sort);
            due("of its LAYER alone", x.counted(0, sort), 0);
        }
        refusedEach(new int[] {-1, 2, 6, LEAST, MOST}, () -> layers(2), "layer", UNKNOWN, (y, no) -> y.count(no, 0, 1));
        refusedEach(beyond(0, 6), Samples::half, "sort", UNKNOWN, (y, no) -> y.count(5, no, 1));
        refusedEach(beyond(0, 99), Samples::half, "v", OUTSIDE, (y, no) -> y.count(5, 1, no));
        refusedEach(beyond(0, 99), Samples::half, "v of UNSAID", OUTSIDE, (y, no) -> y.count(5, 6, no));
        refusedEach(beyond(0, 99), Samples::half, "layer and v", UNKNOWN, (y, no) -> y.count(6, 6, no));
        refusedEach(beyond(0, 99), Samples::half, "sort and v", UNKNOWN, (y, no) -> y.count(5, 7, no));
    }

    private void promise17() {
        promise(17, "What it is. UNKNOWN.");
        CharcoalFromAHearth x = layers(6);
        for (int layer = 0; layer < 6; layer++) {
            counts(x, layer, 1 + layer, 11 + layer, 21 + layer, 31 + layer, 41 + layer, 51 + layer, 61 + layer);
        }
        for (int layer = 0; layer < 6; layer++) {
            for (int sort = 0; sort <= 6; sort++) {
                due("counted(" + layer + ", " + sort + ")", x.counted(layer, sort), 1 + 10 * sort + layer);
            }
        }
        refusedEach(beyond(0, 5), Samples::half, "layer", UNKNOWN, (y, no) -> y.counted(no, 6));
        refusedEach(beyond(0, 6), Samples::half, "sort", UNKNOWN, (y, no) -> y.counted(5, no));
    }

    private void promise18() {
        promise(18, "A crumb more of THE ROW (0 to 6): how many there are. UNKNOWN: sort; FULL: 48.");
        CharcoalFromAHearth x = layers(1);
        for (int crumb = 0; crumb <= 6; crumb++) {
            due("crumb " + crumb, x.crumb(crumb), crumb + 1);
        }
        x.pour(0);
        for (int crumb = 0; crumb <= 6; crumb++) {
            due("one each", x.counted(0, crumb), 1);
        }
        for (int length = 8; length <= 48; length++) {
            due("how many", x.crumb(6), length);
        }
        due("the 49th", x.crumb(6), FULL);
        due("48", x.all(2), 48);
        x.pour(0);
        due("no more than came", x.counted(0, 6), 42);
        refusedEach(beyond(0, 6), Samples::half, "sort", UNKNOWN, (y, no) -> y.crumb(no));
        refusedEach(beyond(0, 6), Samples::full, "sort, and full", UNKNOWN, (y, no) -> y.crumb(no));
        for (int crumb = 0; crumb <= 6; crumb++) {
            refusedEach(new int[] {crumb}, Samples::full, "full", FULL, (y, no) -> y.crumb(no));
        }
    }

    private void promise19() {
        promise(19, "THE ROW is empty: how long it was.");
        CharcoalFromAHearth x = layers(1);
        due("none", x.sweep(), 0);
        x.crumb(6);
        due("one", x.sweep(), 1);
        due("none again", x.sweep(), 0);
        for (int crumb = 0; crumb < 48; crumb++) {
            x.crumb(crumb % 6);
        }
        x.pour(0);
        due("48", x.sweep(), 48);
        due("empty", x.all(2), 0);
        due("the LAYER keeps them", x.counted(0, 5), 8);
        due("none SAID", x.stop(1, 1), NONE);
        due("none UNSAID", x.stop(0, 1), NONE);
        due("one comes", x.crumb(5), 1);
        due("it is a new SORT", x.stop(0, 1), NONE);
        due("alone", x.stop(1, 2), NONE);
        due("the most", x.stop(2, 1), 1);
        due("none is missed", x.missed(1, 1), 0);
    }

    private void promise20() {
        promise(20, "THE ROW becomes COUNTS of a LAYER (what it had is gone): how many SORTS it has. UNKNOWN.");
        CharcoalFromAHearth x = withLayers(withRow(5, 6, 0, 5), 3);
        counts(x, 1, 99, 99, 99, 99, 99, 99, 99);
        counts(x, 2, 9, 9, 9, 9, 9, 9, 9);
        due("two SORTS", x.pour(1), 2);
        int[] want = {1, 0, 0, 0, 0, 2, 1};
        for (int sort = 0; sort <= 6; sort++) {
            due("COUNT " + sort, x.counted(1, sort), want[sort]);
            due("below " + sort, x.counted(0, sort), 0);
            due("above " + sort, x.counted(2, sort), 9);
        }
        due("THE ROW stays", x.all(2), 4);
        due("again the same, nothing is added", x.pour(1), 2);
        due("COUNT 5 again", x.counted(1, 5), 2);
        x.sweep();
        due("of an empty row", x.pour(1), 0);
        due("what it had is gone", x.counted(1, 5), 0);
        due("UNSAID too", x.counted(1, 6), 0);
        x.crumb(6);
        due("UNSAID is no SORT", x.pour(1), 0);
        due("it is counted", x.counted(1, 6), 1);
        for (int sort = 0; sort < 6; sort++) {
            x.crumb(sort);
            due("SORTS", x.pour(1), sort + 1);
        }
        due("48 of one", withLayers(rowOf(48, 3), 1).pour(0), 1);
        refusedEach(beyond(0, 5), Samples::half, "layer", UNKNOWN, (y, no) -> y.pour(no));
        refusedEach(new int[] {-1, 2, 5}, () -> withLayers(rowOf(3, 3), 2), "layer", UNKNOWN, (y, no) -> y.pour(no));
    }

    private void promise21() {
        promise(21, "TO STOP by a RULE (0 to 2) and n: behind how many crumbs; NONE. OUTSIDE: rule, n (1 to 48).");
        CharcoalFromAHearth x = rowOf(48, 3);
        for (int rule = 0; rule <= 2; rule++) {
            due("n = 1, rule " + rule, x.stop(rule, 1), rule == 0 ? 2 : 1);
            due("n = 48, rule " + rule, x.stop(rule, 48), rule == 0 ? NONE : 48);
            due("an empty row", new CharcoalFromAHearth().stop(rule, 1), NONE);
            int by = rule;
            refusedEach(beyond(1, 48), Samples::half, "n, rule " + rule, OUTSIDE, (y, no) -> y.stop(by, no));
            refusedEach(beyond(1, 48), CharcoalFromAHearth::new, "n, no row", OUTSIDE, (y, no) -> y.stop(by, no));
        }
        due("THE ROW stays", x.all(2), 48);
        refusedEach(beyond(0, 2), Samples::half, "rule", OUTSIDE, (y, no) -> y.stop(no, 1));
        refusedEach(beyond(0, 2), Samples::half, "both", OUTSIDE, (y, no) -> y.stop(no, 49));
    }

    private void promise22() {
        promise(22, "MISSED, as bits; NONE: one does not stop. OUTSIDE.");
        CharcoalFromAHearth x = withRow(0, 0, 1, 5, 5, 5);
        int[] rule1 = {0b100010, 0b100010, 0b100000, 0, 0, 0};
        for (int n = 1; n <= 6; n++) {
            due("by RULE 1, " + n, x.missed(1, n), rule1[n - 1]);
        }
        due("by RULE 1, 7", x.missed(1, 7), NONE);
        due("by RULE 1, 48", x.missed(1, 48), NONE);
        due("by RULE 0, 1", x.missed(0, 1), 0b100010);
        due("by RULE 0, 2", x.missed(0, 2), 0);
        due("by RULE 0, 3", x.missed(0, 3), NONE);
        due("by RULE 2, 2", x.missed(2, 2), 0b100010);
        due("by RULE 2, 3", x.missed(2, 3), NONE);
        due("an empty row", new CharcoalFromAHearth().missed(0, 1), NONE);
        due("THE ROW stays", x.all(2), 6);
        for (int rule = 0; rule <= 2; rule++) {
            int by = rule;
            refusedEach(beyond(1, 48), Samples::half, "n, rule " + rule, OUTSIDE, (y, no) -> y.missed(by, no));
            refusedEach(beyond(1, 48), CharcoalFromAHearth::new, "n, no row", OUTSIDE, (y, no) -> y.missed(by, no));
        }
        refusedEach(beyond(0, 2), Samples::half, "rule", OUTSIDE, (y, no) -> y.missed(no, 1));
    }

    private void promise23() {
        promise(23, "A SORT's SHARE in a LAYER. UNKNOWN; STATE: the LAYER has no COUNTS of SORTS.");
        CharcoalFromAHearth x = layers(2);
        x.count(0, 6, 99);
        for (int sort = 0; sort < 6; sort++) {
            due("no COUNTS", x.share(1, sort, true), STATE);
            due("UNSAID alone", x.share(0, sort, false), STATE);
        }
        due("one", x.count(0, 5, 1), 0);
        share(x, 0, 5, 1, 1);
        share(x, 0, 4, 0, 1);
        due("none in the other LAYER", x.share(1, 5, true), STATE);
        x.count(0, 5, 0);
        due("no more", x.share(0, 5, true), STATE);
        refused(Samples::half, "no COUNTS of SORTS", STATE, y -> y.share(4, 0, true));
        refusedEach(beyond(0, 5), Samples::half, "layer", UNKNOWN, (y, no) -> y.share(no, 5, true));
        refusedEach(beyond(0, 5), Samples::half, "sort", UNKNOWN, (y, no) -> y.share(5, no, false));
        refusedEach(beyond(0, 5), Samples::half, "sort, no COUNTS", UNKNOWN, (y, no) -> y.share(4, no, true));
    }
}
