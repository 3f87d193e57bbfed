/** Promises 15 to 29: layers, the row, odds. */
public final class LayersAndOddsTest {
    private static final int UNKNOWN = -1, OUTSIDE = -2, STATE = -3, FULL = -4, NONE = -9;
    private static final int LEAST = Integer.MIN_VALUE, MOST = Integer.MAX_VALUE;
    private static final int[] NO_LAYERS = {-1, 2, 6, LEAST, MOST};
    private static final int[] NO_WAYS = {-1, 4, LEAST, MOST};
    private static final int[] NO_SORTS = {-1, 6, NONE, LEAST, MOST};
    private static final Checks CHECKS = new Checks();

    public static void main(String[] args) {
        promise15Layer();
        promise16Count();
        promise17Counted();
        promise18Crumb();
        promise19Sweep();
        promise20Pour();
        promise21StopByNoNewSort();
        promise21StopBySaid();
        promise21StopByTheMost();
        promise21Outside();
        promise22Missed();
        promise23Share();
        promise24Chance();
        promise24ChanceIsAsked();
        promise25Odds();
        promise25OddsState();
        promise26Likeliest();
        promise27Far();
        promise28Lacks();
        promise29Next();
        CHECKS.end();
    }

    private static void due(String call, long got, long want) {
        CHECKS.due(call, got, want);
    }

    private static CharcoalFromAHearth withLayers(CharcoalFromAHearth x, int layers) {
        for (int layer = 0; layer < layers; layer++) {
            x.layer();
        }
        return x;
    }

    private static void counts(CharcoalFromAHearth x, int layer, int... counts) {
        for (int sort = 0; sort < counts.length; sort++) {
            x.count(layer, sort, counts[sort]);
        }
    }

    private static CharcoalFromAHearth withRow(int... crumbs) {
        CharcoalFromAHearth x = new CharcoalFromAHearth();
        for (int crumb : crumbs) {
            x.crumb(crumb);
        }
        return x;
    }

    private static void promise15Layer() {
        CharcoalFromAHearth x = new CharcoalFromAHearth();
        for (int layer = 0; layer < 6; layer++) {
            due("15 no such yet", x.counted(layer, 0), UNKNOWN);
            due("15 layer", x.layer(), layer);
            for (int sort = 0; sort <= 6; sort++) {
                due("15 without counts", x.counted(layer, sort), 0);
            }
        }
        due("15 full", x.layer(), FULL);
        due("15 full again", x.layer(), FULL);
        due("15 six", x.all(1), 6);
    }

    private static void promise16Count() {
        CharcoalFromAHearth x = withLayers(new CharcoalFromAHearth(), 2);
        due("16 first", x.count(0, 0, 99), 0);
        due("16 it was 99", x.count(0, 0, 1), 99);
        due("16 it was 1", x.count(0, 0, 0), 1);
        due("16 it was 0", x.count(0, 0, 5), 0);
        due("16 another layer", x.count(1, 0, 7), 0);
        due("16 unsaid", x.count(1, 6, 99), 0);
        due("16 unsaid was 99", x.count(1, 6, 98), 99);
        due("16 sort 5", x.count(1, 5, 3), 0);
        for (int no : NO_LAYERS) {
            due("16 layer " + no, x.count(no, 0, 0), UNKNOWN);
            due("16 UNKNOWN first, layer " + no, x.count(no, 0, 100), UNKNOWN);
        }
        for (int no : new int[] {-1, 7, NONE, LEAST, MOST}) {
            due("16 sort " + no, x.count(0, no, 0), UNKNOWN);
            due("16 UNKNOWN first, sort " + no, x.count(0, no, -1), UNKNOWN);
        }
        for (int no : new int[] {-1, 100, LEAST, MOST}) {
            due("16 v " + no, x.count(0, 0, no), OUTSIDE);
            due("16 unsaid v " + no, x.count(0, 6, no), OUTSIDE);
        }
        due("16 unchanged", x.counted(0, 0), 5);
        due("16 unsaid unchanged", x.counted(0, 6), 0);
    }

    private static void promise17Counted() {
        CharcoalFromAHearth x = withLayers(new CharcoalFromAHearth(), 2);
        counts(x, 0, 1, 2, 3, 4, 5, 6, 7);
        counts(x, 1, 91, 92, 93, 94, 95, 96, 97);
        for (int sort = 0; sort <= 6; sort++) {
            due("17 counted 0 " + sort, x.counted(0, sort), sort + 1);
            due("17 counted 1 " + sort, x.counted(1, sort), sort + 91);
        }
        for (int no : NO_LAYERS) {
            due("17 layer " + no, x.counted(no, 0), UNKNOWN);
        }
        for (int no : new int[] {-1, 7, NONE, LEAST, MOST}) {
            due("17 sort " + no, x.counted(0, no), UNKNOWN);
        }
    }

    private static void promise18Crumb() {
        CharcoalFromAHearth x = new CharcoalFromAHearth();
        for (int no : new int[] {-1, 7, NONE, LEAST, MOST}) {
            due("18 sort " + no, x.crumb(no), UNKNOWN);
        }
        for (int length = 1; length <= 48; length++) {
            due("18 crumb", x.crumb(length % 7), length);
        }
        due("18 full", x.crumb(0), FULL);
        due("18 full of unsaid", x.crumb(6), FULL);
        due("18 UNKNOWN ahead of FULL", x.crumb(7), UNKNOWN);
        due("18 no more", x.all(2), 48);
        x.layer();
        x.pour(0);
        for (int sort = 0; sort <= 6; sort++) {
            due("18 each of them", x.counted(0, sort), sort == 0 ? 6 : 7);
        }
    }

    private static void promise19Sweep() {
        CharcoalFromAHearth x = withRow(1, 6, 3);
        due("19 sweep", x.sweep(), 3);
        due("19 empty", x.all(2), 0);
        due("19 sweep again", x.sweep(), 0);
        due("19 no stop", x.stop(1, 1), NONE);
        due("19 anew", x.crumb(2), 1);
        due("19 nothing of the old", x.stop(1, 2), NONE);
        x.layer();
        due("19 one sort", x.pour(0), 1);
    }

    private static void promise20Pour() {
        CharcoalFromAHearth x = withRow(5, 6, 1, 1, 6, 6, 5, 1);
        withLayers(x, 2);
        counts(x, 0, 9, 9, 9, 9, 9, 9, 9);
        counts(x, 1, 8, 8, 8, 8, 8, 8, 8);
        x.twig(0, 1, 5);
        x.beam(0, 1, 50, true);
        due("20 two sorts", x.pour(0), 2);
        int[] want = {0, 3, 0, 0, 0, 2, 3};
        for (int sort = 0; sort <= 6; sort++) {
            due("20 counted " + sort, x.counted(0, sort), want[sort]);
            due("20 another layer " + sort, x.counted(1, sort), 8);
        }
        due("20 the row stays", x.all(2), 8);
        due("20 twigs stay", x.longest(), 1);
        due("20 beams stay", x.earliest(0), 50);
        due("20 into another", x.pour(1), 2);
        due("20 that has them too", x.counted(1, 1), 3);
        x.sweep();
        due("20 an empty row", x.pour(0), 0);
        due("20 nothing is left", x.counted(0, 1), 0);
        due("20 nor unsaid", x.counted(0, 6), 0);
        x.crumb(6);
        due("20 unsaid is no sort", x.pour(0), 0);
        due("20 but counted", x.counted(0, 6), 1);
        x.crumb(0);
        x.crumb(0);
        due("20 sort 0 is one", x.pour(0), 1);
        for (int no : NO_LAYERS) {
            due("20 layer " + no, x.pour(no), UNKNOWN);
        }
    }

    private static void promise21StopByNoNewSort() {
        CharcoalFromAHearth x = withRow(4, 4, 6, 0, 0, 6, 4, 5, 6, 6, 6, 6);
        due("21 the first is new", x.stop(0, 1), 2);
        due("21 unsaid ones are no new sort", x.stop(0, 2), 3);
        due("21 in a row", x.stop(0, 3), 7);
        due("21 to the end", x.stop(0, 4), 12);
        due("21 not so many", x.stop(0, 5), NONE);
        due("21 nor 48", x.stop(0, 48), NONE);
        due("21 unsaid ones alone", withRow(6, 6).stop(0, 2), 2);
        due("21 unsaid ones ahead", withRow(6, 1).stop(0, 1), 1);
        x = withRow(6, 6, 6, 2, 2);
        due("21 looked at once", x.stop(0, 3), 3);
        due("21 and from the start again", x.stop(0, 3), 3);
        due("21 all new", withRow(0, 1, 2, 3, 4, 5).stop(0, 1), NONE);
        due("21 an empty row", withRow().stop(0, 1), NONE);
        int[] unsaid = new int[48];
        java.util.Arrays.fill(unsaid, 6);
        due("21 48 of them", withRow(unsaid).stop(0, 48), 48);
    }

    private static void promise21StopBySaid() {
        CharcoalFromAHearth x = withRow(6, 2, 6, 6, 2, 3, 6, 0, 6);
        due("21 one said", x.stop(1, 1), 2);
        due("21 two said", x.stop(1, 2), 5);
        due("21 three said", x.stop(1, 3), 6);
        due("21 four said", x.stop(1, 4), 8);
        due("21 five said", x.stop(1, 5), NONE);
        due("21 none said", withRow(6, 6, 6).stop(1, 1), NONE);
        due("21 48 said", withRow(new int[48]).stop(1, 48), 48);
        due("21 47 said", withRow(new int[48]).stop(1, 47), 47);
    }

    private static void promise21StopByTheMost() {
        CharcoalFromAHearth x = withRow(6, 1, 3, 3, 1, 6, 6, 3, 3, 0, 0, 3);
        due("21 the first", x.stop(2, 1), 2);
        due("21 two more than the next", x.stop(2, 2), 9);
        due("21 three more", x.stop(2, 3), 12);
        due("21 four more", x.stop(2, 4), NONE);
        due("21 unsaid ones are none", withRow(6, 6, 6).stop(2, 1), NONE);
        due("21 nor the next", withRow(6, 6, 2, 2).stop(2, 2), 4);
        due("21 alike", withRow(0, 1, 0, 1, 0, 1).stop(2, 2), NONE);
        due("21 of like ones none is more", withRow(0, 1, 1, 0, 2).stop(2, 2), NONE);
        due("21 the next, not the least", withRow(0, 1, 2, 0, 1, 0, 1, 0, 0).stop(2, 2), 9);
        due("21 48 of one", withRow(new int[48]).stop(2, 48), 48);
    }

    private static void promise21Outside() {
        CharcoalFromAHearth x = withRow(1, 1, 1);
        for (int no : new int[] {-1, 3, LEAST, MOST}) {
            due("21 rule " + no, x.stop(no, 1), OUTSIDE);
            due("22 rule " + no, x.missed(no, 1), OUTSIDE);
        }
        for (int no : new int[] {0, -1, 49, LEAST, MOST}) {
            for (int rule = 0; rule < 3; rule++) {
                due("21 n " + no, x.stop(rule, no), OUTSIDE);
                due("22 n " + no, x.missed(rule, no), OUTSIDE);
            }
        }
        due("21 the row stays", x.all(2), 3);
    }

    private static void promise22Missed() {
        CharcoalFromAHearth x = withRow(4, 4, 6, 0, 0, 6, 4, 5, 6, 6, 6, 6);
        due("22 two", x.missed(0, 1), 1 | 1 << 5);
        due("22 one", x.missed(0, 3), 1 << 5);
        due("22 none", x.missed(0, 4), 0);
        due("22 no stop", x.missed(0, 5), NONE);
        due("22 by said", x.missed(1, 3), 1 << 5);
        due("22 by said, none", x.missed(1, 6), 0);
        due("22 by said, no stop", x.missed(1, 7), NONE);
        due("22 by the most", x.missed(2, 1), 1 | 1 << 5);
        due("22 by the most, no stop", x.missed(2, 3), NONE);
        due("22 unsaid is no sort", withRow(1, 6, 6).missed(1, 1), 0);
        due("22 each", withRow(2, 0, 1, 2, 3, 4, 5, 5).missed(1, 1), 0b111011);
        due("22 later and ahead", withRow(0, 1, 0, 1, 2).missed(1, 2), 0b100);
        due("22 an empty row", withRow().missed(1, 1), NONE);
        due("22 the row stays", x.all(2), 12);
    }

    private static void share(CharcoalFromAHearth x, String what, int layer, int sort, long upper, long lower) {
        due("23 share, " + what + ", upper", x.share(layer, sort, true), upper);
        due("23 share, " + what + ", lower", x.share(layer, sort, false), lower);
    }

    private static void promise23Share() {
        CharcoalFromAHearth x = withLayers(Checks.withWood("B01U05A02"), 2);
        counts(x, 0, 2, 4, 0, 0, 0, 0, 50);
        share(x, "of k, A, U", 0, 0, 5, 7);
        share(x, "of none of them", 0, 1, 2, 7);
        share(x, "not there", 0, 2, 0, 1);
        x.count(0, 0, 0);
        share(x, "alone", 0, 1, 1, 1);
        x.count(1, 6, 3);
        due("23 unsaid alone", x.share(1, 0, true), STATE);
        due("23 unsaid alone, lower", x.share(1, 0, false), STATE);
        x = withLayers(Checks.withWood("B01U09A09B19U12A13"), 2);
        counts(x, 0, 99, 97);
        share(x, "of far ones", 0, 0, 49896, 49993);
        share(x, "of far ones, the less", 0, 1, 97, 49993);
        x = withLayers(Checks.withWood("U01A12B23"), 2);
        counts(x, 0, 9, 8, 3);
        // 900 by 2 * 9 * 10, 800 by 2 * 10 * 8, 300 by 3 * 10 * 10
        share(x, "by U", 0, 0, 5, 11);
        share(x, "by A", 0, 1, 5, 11);
        share(x, "by B", 0, 2, 1, 11);
        for (int no : NO_LAYERS) {
            due("23 layer " + no, x.share(no, 0, true), UNKNOWN);
        }
        for (int no : NO_SORTS) {
            due("23 sort " + no, x.share(0, no, true), UNKNOWN);
            due("23 UNKNOWN first, sort " + no, x.share(1, no, true), UNKNOWN);
        }
        due("23 no counts", x.share(1, 0, true), STATE);
    }

    private static void chance(CharcoalFromAHearth x, String what, int layer, int way, long upper, long lower) {
        due("24 chance, " + what + ", upper", x.chance(layer, way, true), upper);
        due("24 chance, " + what + ", lower", x.chance(layer, way, false), lower);
    }

    private static void promise24Chance() {
        CharcoalFromAHearth x = withLayers(Checks.withWood("S003B01S102B11S021B21"), 2);
        x.way(1, 2, 60, NONE, NONE);
        x.way(2, 0, 60, NONE, 0);
        x.way(3, 0, 4, NONE, NONE);
        chance(x, "an empty layer", 0, 0, 1, 1);
        counts(x, 0, 2, 1, 0, 0, 0, 0, 40);
        chance(x, "as often as counted", 0, 0, 18, 125);
        chance(x, "of more", 0, 1, 4, 27);
        chance(x, "without one", 0, 2, 0, 1);
        chance(x, "of fewer", 0, 3, 9, 64);
        counts(x, 0, 0, 3);
        chance(x, "of one alone", 0, 2, 1, 1);
        x.way(2, 0, 0, NONE, NONE);
        chance(x, "nothing said", 0, 2, 0, 1);
        chance(x, "nothing said, nothing counted", 1, 2, 1, 1);
        x.count(1, 6, 99);
        chance(x, "nothing said, unsaid counted", 1, 2, 1, 1);
        for (int no : NO_LAYERS) {
            due("24 layer " + no, x.chance(no, 0, true), UNKNOWN);
        }
        for (int no : NO_WAYS) {
            due("24 way " + no, x.chance(0, no, true), UNKNOWN);
        }
    }

    private static void promise24ChanceIsAsked() {
        CharcoalFromAHearth x = withLayers(Checks.withWood("S001S109S119S129S132B01B11B21S231"), 2);
        x.way(0, 9, 30, NONE, 2);
        x.way(1, 9, 60, NONE, NONE);
        x.way(2, 0, 0, NONE, NONE);
        x.count(0, 0, 12);
        chance(x, "12 of 30", 0, 0, 1, 531441000000000000L);
        due("24 31 said", x.chance(0, 1, true), STATE);
        due("24 31 said, none counted", x.chance(1, 1, true), STATE);
        counts(x, 0, 0, 12);
        chance(x, "12 of many", 0, 0, 353814783205469041L, 531441000000000000L);
        counts(x, 0, 1, 12);
        due("24 13 counted", x.chance(0, 0, true), STATE);
        due("24 13 counted, none said", x.chance(0, 2, true), STATE);
        due("24 lower too", x.chance(0, 2, false), STATE);
        due("24 UNKNOWN first", x.chance(0, 4, true), UNKNOWN);
        counts(x, 0, 11, 1);
        x.count(0, 6, 99);
        chance(x, "12 and unsaid", 0, 0, 29, 531441000000000000L);
        x = withLayers(Checks.withWood("S009B09U09"), 1);
        due("24 81 crumbs, 8 said", x.chance(0, 0, true), 1);
    }

    private static void odds(CharcoalFromAHearth x, String what, int layer, int way, long upper, long lower) {
        due("25 odds, " + what + ", upper", x.odds(layer, way, true), upper);
        due("25 odds, " + what + ", lower", x.odds(layer, way, false), lower);
    }

    /** Said by way 0: one of three is of SORT 0; by 1: it alone; by 2: none; by 3: one of two. */
    private static CharcoalFromAHearth ofThirds() {
        CharcoalFromAHearth x = withLayers(Checks.withWood("S001S101S011S111S121D10B01B11"), 3);
        x.way(0, 0, 3, NONE, NONE);
        x.way(1, 1, 60, NONE, 1);
        x.way(2, 3, 60, NONE, 0);
        x.way(3, 9, 60, NONE, NONE);
        return x;
    }

    private static void promise25Odds() {
        CharcoalFromAHearth x = ofThirds();
        odds(x, "an empty layer", 0, 3, 1, 4);
        x.count(0, 0, 1);
        // 2/3, 1, 0 and 2/5 of 1000000000, the first of them cut.
        odds(x, "cut", 0, 0, 333333333, 1033333333);
        odds(x, "in least terms", 0, 1, 500000000, 1033333333);
        odds(x, "no chance", 0, 2, 0, 1);
        odds(x, "and one more", 0, 3, 200000000, 1033333333);
        x.count(1, 1, 2);
        // 1/9, 0, 1 and 9/25.
        odds(x, "as often as counted", 1, 0, 111111111, 1471111111);
        odds(x, "no chance by another", 1, 1, 0, 1);
        odds(x, "sure", 1, 2, 1000000000, 1471111111);
        odds(x, "exact", 1, 3, 360000000, 1471111111);
        counts(x, 2, 0, 0, 0, 0, 0, 0, 9);
        odds(x, "unsaid alone", 2, 2, 1, 4);
        for (int no : new int[] {-1, 3, LEAST, MOST}) {
            due("25 layer " + no, x.odds(no, 0, true), UNKNOWN);
        }
        for (int no : NO_WAYS) {
            due("25 way " + no, x.odds(0, no, true), UNKNOWN);
        }
    }

    private static void promise25OddsState() {
        CharcoalFromAHearth x = ofThirds();
        counts(x, 0, 13);
        due("25 13 counted", x.odds(0, 1, true), STATE);
        due("25 UNKNOWN first", x.odds(0, 4, true), UNKNOWN);
        counts(x, 0, 0, 0, 1);
        due("25 no way has such parts", x.odds(0, 1, true), STATE);
        due("25 likeliest: none", x.likeliest(0), STATE);
        due("25 far: none", x.far(0, true), STATE);
        x = withLayers(Checks.withWood("S001S109S119S129S132B01B11"), 1);
        for (int way = 0; way < 4; way++) {
            x.way(way, 9, 30, NONE, NONE);
        }
        x.count(0, 0, 7);
        due("25 a chance", x.chance(0, 0, true), 1);
        due("25 too little for a part", x.odds(0, 0, true), STATE);
        due("25 and so likeliest", x.likeliest(0), STATE);
        due("25 and so far", x.far(0, true), STATE);
        x.count(0, 0, 6);
        odds(x, "one part each", 0, 2, 1, 4);
        x = withLayers(Checks.withWood("S009B04S011"), 1);
        x.way(0, 0, 7, NONE, NONE);
        x.way(1, 0, 7, NONE, NONE);
        x.way(2, 0, 7, NONE, NONE);
        x.way(3, 0, 8, NONE, NONE);
        due("25 one way is not asked", x.odds(0, 0, true), STATE);
        due("25 likeliest: one is not asked", x.likeliest(0), STATE);
        due("25 far: one is not asked", x.far(0, true), STATE);
        x.way(3, 0, 7, NONE, NONE);
        odds(x, "all are asked", 0, 0, 1, 4);
    }

    private static void promise26Likeliest() {
        CharcoalFromAHearth x = ofThirds();
        due("26 all alike", x.likeliest(0), 0);
        x.count(0, 0, 1);
        due("26 of 0", x.likeliest(0), 1);
        counts(x, 0, 0, 1);
        due("26 of 1", x.likeliest(0), 2);
        counts(x, 0, 1, 1);
        // 2/9, 0, 0 and 6/25.
        due("26 of both", x.likeliest(0), 3);
        x.way(2, 9, 60, NONE, NONE);
        due("26 of like ones the least", x.likeliest(0), 2);
        for (int no : new int[] {-1, 3, LEAST, MOST}) {
            due("26 layer " + no, x.likeliest(no), UNKNOWN);
        }
        x.count(0, 0, 12);
        due("26 not asked", x.likeliest(0), STATE);
    }

    private static void far(CharcoalFromAHearth x, String what, int layer, long upper, long lower) {
        due("27 far, " + what + ", upper", x.far(layer, true), upper);
        due("27 far, " + what + ", lower", x.far(layer, false), lower);
    }

    private static void promise27Far() {
        CharcoalFromAHearth x = ofThirds();
        far(x, "all alike", 0, 13, 4);
        x.count(0, 0, 1);
        // (0 * 666666666 + 1 * 1000000000 + 9 * 400000000) by 2066666666
        far(x, "by odds", 0, 2300000000L, 1033333333);
        counts(x, 1, 1, 1);
        // 9 * 240000000 by (222222222 and 240000000)
        far(x, "of two", 1, 360000000, 77037037);
        x.way(3, 0, 60, NONE, NONE);
        counts(x, 1, 0, 12);
        // (1/3 or 1/2) to the power of 12, and 1 by way 2
        due("27 nearly 3, upper", x.far(1, true) / x.far(1, false), 2);
        for (int way = 0; way < 4; way++) {
            x.way(way, 0, 60, NONE, NONE);
        }
        far(x, "no miles", 0, 0, 1);
        for (int way = 0; way < 4; way++) {
            x.way(way, 9, 60, NONE, NONE);
        }
        far(x, "nine miles", 0, 9, 1);
        for (int no : new int[] {-1, 3, LEAST, MOST}) {
            due("27 layer " + no, x.far(no, true), UNKNOWN);
            due("27 layer, lower " + no, x.far(no, false), UNKNOWN);
        }
        x.count(0, 0, 13);
        due("27 not asked", x.far(0, true), STATE);
    }

    private static void promise28Lacks() {
        CharcoalFromAHearth x = withLayers(Checks.withWood("S003S101A19S201U29B21S321S434A43S503D25"), 2);
        x.way(0, 4, 60, NONE, 0);
        x.way(1, 5, 60, NONE, NONE);
        x.way(2, 9, 3, NONE, 3);
        x.way(3, 9, 60, 0, 0);
        due("28 never taken", x.lacks(0, 0, 0), 1);
        due("28 liked, but never taken", x.lacks(0, 3, 0), 1);
        due("28 none gathered", x.lacks(0, 2, 4), 2);
        due("28 none gathered at its place", x.lacks(0, 2, 1), 2);
        due("28 all to ash", x.lacks(0, 0, 1), 3);
        due("28 never said", x.lacks(0, 0, 2), 4);
        due("28 luck", x.lacks(0, 0, 5), 5);
        due("28 luck, though some go to ash", x.lacks(0, 0, 4), 5);
        due("28 beyond its miles", x.lacks(0, 0, 3), 0);
        due("28 just within its miles", x.lacks(0, 1, 3), 5);
        due("28 never taken, beyond", x.lacks(0, 2, 3), 1);
        counts(x, 0, 1, 1, 1, 1, 1, 1);
        for (int sort = 0; sort < 6; sort++) {
            due("28 in the layer", x.lacks(0, 0, sort), 0);
        }
        counts(x, 0, 0, 0, 0, 0, 0, 0, 5);
        due("28 unsaid is no sort", x.lacks(0, 0, 0), 1);
        due("28 another layer", x.lacks(1, 0, 0), 1);
        CharcoalFromAHearth y = withLayers(new CharcoalFromAHearth(), 2);
        y.way(0, 9, 60, NONE, 0);
        due("28 it does not stand", y.lacks(0, 0, 0), 0);
        for (int no : NO_LAYERS) {
            due("28 layer " + no, x.lacks(no, 0, 0), UNKNOWN);
        }
        for (int no : NO_WAYS) {
            due("28 way " + no, x.lacks(0, no, 0), UNKNOWN);
        }
        for (int no : NO_SORTS) {
            due("28 sort " + no, x.lacks(0, 0, no), UNKNOWN);
        }
    }

    private static void promise29Next() {
        CharcoalFromAHearth x = ofThirds();
        due("29 all alike", x.next(), 0);
        x.count(0, 0, 1);
        due("29 1/4 at layer 1", x.next(), 1);
        x.count(1, 1, 2);
        due("29 1/4 at layer 2", x.next(), 2);
        x.count(2, 0, 2);
        // 1000000000 by 2066666666, by 1471111111, by 1604444444
        due("29 the least of greatest", x.next(), 0);
        x.count(0, 0, 3);
        // 1000000000 by 1360296296
        due("29 another", x.next(), 2);
        x.count(1, 0, 11);
        due("29 one not asked is 0", x.next(), 1);
        x.count(0, 0, 13);
        due("29 of such the first", x.next(), 0);
        CharcoalFromAHearth y = ofThirds();
        counts(y, 1, 0, 0, 1);
        due("29 no way has such parts: 0", y.next(), 1);
        due("29 no layers", new CharcoalFromAHearth().next(), NONE);
        CharcoalFromAHearth z = ofThirds();
        withLayers(z, 3);
        for (int layer = 0; layer < 5; layer++) {
            z.count(layer, 0, 1);
        }
        due("29 the sixth", z.next(), 5);
    }
}
