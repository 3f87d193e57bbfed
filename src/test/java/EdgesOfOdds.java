/** Group 4 of the Terms, and TO COUNT NEXT; promises 24 to 29. */
final class EdgesOfOdds extends Edges {
    /** One crumb of SORT 0, 29 of SORT 1, 30 of SORT 2: each piece breaks into one. */
    private static final String SIXTY = "S001S109S119S129S132S209S219S229S233B01B11B21";

    EdgesOfOdds(Checks checks, Document document) {
        super(checks, document);
    }

    @Override
    void run() {
        drawnAnew();
        twelveAtMost();
        noMoreThanThirtySaid();
        partsAreCut();
        withoutSaidCrumbs();
        likeliestOfLikeOnes();
        howFar();
        lacksWhere();
        lacksWhy();
        promise24();
        promise25();
        promise25NotAsked();
        promise25NoSuchParts();
        promise26();
        promise27();
        promise28();
        countNext();
        promise29();
    }

    /** Six LAYERS; all WAYS go nine miles for 60 pieces. */
    private static CharcoalFromAHearth hearth(String wood) {
        CharcoalFromAHearth x = withLayers(Checks.withWood(wood), 6);
        for (int way = 0; way < 4; way++) {
            x.way(way, 9, 60, NONE, NONE);
        }
        return x;
    }

    // ---- group 4

    private void drawnAnew() {
        terms(4, "THE CHANCE of a LAYER by a WAY: each crumb SAID in it is drawn anew from what a FIRE of that WAY has SAID:"
            + " the product, over SORTS, of SAID of that SORT by SAID of all, as often as its COUNT;");
        CharcoalFromAHearth x = hearth("S001S102S203B01B11B21");
        chance(x, 0, 0, 1, 1);
        counts(x, 0, 1);
        chance(x, 0, 0, 1, 6);
        counts(x, 0, 2);
        chance(x, 0, 0, 1, 36);
        counts(x, 0, 0, 2);
        chance(x, 0, 0, 1, 9);
        counts(x, 0, 1, 1, 1);
        chance(x, 0, 0, 1, 36);
        counts(x, 0, 0, 0, 3, 0, 0, 0, 99);
        chance(x, 0, 0, 1, 8);
        counts(x, 0, 0, 0, 3, 1);
        chance(x, 0, 0, 0, 1);
        x = hearth("S509S519S529S533B51U00");
        x.count(0, 5, 12);
        chance(x, 0, 0, 1, 1);
        x = hearth("S001S105B01B11U15A11");
        // Of five of SORT 1 one goes to ash, of four crumbs two are SAID.
        counts(x, 0, 1, 1);
        chance(x, 0, 0, 2, 9);
    }

    private void twelveAtMost() {
        terms(4, "asked of LAYERS whose COUNTS are 12 at most together,");
        Made twelve = () -> {
            CharcoalFromAHearth x = hearth("S001S101S201S301S401S501B01B11B21B31B41B51");
            counts(x, 0, 2, 2, 2, 2, 2, 2, 99);
            counts(x, 1, 12);
            counts(x, 2, 2, 2, 2, 2, 2, 3, 0);
            counts(x, 3, 13);
            counts(x, 4, 99);
            counts(x, 5, 0, 0, 0, 0, 0, 0, 99);
            return x;
        };
        CharcoalFromAHearth x = twelve.make();
        chance(x, 0, 0, 1, 2176782336L);
        chance(x, 1, 3, 1, 2176782336L);
        chance(x, 5, 0, 1, 1);
        due("one more of another is 13", x.count(1, 1, 1), 0);
        due("not asked", x.chance(1, 0, true), STATE);
        x.count(1, 0, 11);
        chance(x, 1, 0, 1, 2176782336L);
        for (int way = 0; way <= 3; way++) {
            int by = way;
            refused(twelve, "13 of six SORTS", STATE, y -> y.chance(2, by, true));
            refused(twelve, "13 of one SORT", STATE, y -> y.chance(3, by, false));
            refused(twelve, "99 of one SORT", STATE, y -> y.chance(4, by, true));
        }
        x = hearth("");
        counts(x, 0, 13);
        due("13, nothing SAID", x.chance(0, 0, true), STATE);
        counts(x, 0, 12);
        chance(x, 0, 0, 0, 1);
    }

    private void noMoreThanThirtySaid() {
        terms(4, "and FIRES with no more than 30 SAID.");
        CharcoalFromAHearth x = hearth(SIXTY);
        counts(x, 1, 12);
        counts(x, 2, 0, 12);
        x.way(0, 9, 30, NONE, 2);
        chance(x, 0, 0, 1, 1);
        chance(x, 1, 0, 1, 531441000000000000L);
        chance(x, 2, 0, 353814783205469041L, 531441000000000000L);
        x.way(0, 9, 31, 0, NONE);
        for (int layer = 0; layer < 3; layer++) {
            due("31 SAID, LAYER " + layer, x.chance(layer, 0, true), STATE);
        }
        Made more = () -> hearth(SIXTY);
        refused(more, "60 SAID, none counted", STATE, y -> y.chance(0, 0, true));
        x = hearth("S006B05S101B11U11");
        chance(x, 0, 0, 1, 1);
        due("31 crumbs, 30 SAID", x.fire(0, 0, 2) + x.fire(0, 1, 2), 30);
        due("one UNSAID", x.unsaid(0), 1);
        x = hearth("S006B05S101B12U11");
        due("31 SAID of 32 crumbs", x.chance(0, 0, true), STATE);
        x = hearth("S009S019S029S039B09U09");
        due("324 crumbs, 32 SAID", x.chance(0, 0, true), STATE);
        x.way(0, 9, 33, NONE, NONE);
        chance(x, 0, 0, 1, 1);
    }

    private void partsAreCut() {
        terms(4, "THE ODDS of a WAY: its CHANCE, in parts of 1000000000 (cut), by those of all four together.");
        CharcoalFromAHearth x = hearth("S009S101B01B11");
        x.count(0, 1, 9);
        chance(x, 0, 0, 1, 1000000000);
        odds(x, 0, 0, 1, 4);
        x.count(0, 1, 10);
        chance(x, 0, 0, 1, 10000000000L);
        due("less than a part each", x.odds(0, 0, true), STATE);
        x.way(2, 9, 1, 1, NONE);
        odds(x, 0, 2, 1, 1);
        odds(x, 0, 0, 0, 1);
        x.count(0, 1, 9);
        odds(x, 0, 2, 1000000000, 1000000003);
        odds(x, 0, 3, 1, 1000000003);
        x = hearth("S002S101B01B11");
        x.way(3, 9, 2, NONE, NONE);
        x.count(0, 0, 1);
        // 2/3 three times, and 2 of 2 by the last one.
        odds(x, 0, 0, 333333333, 1499999999);
        odds(x, 0, 3, 500000000, 1499999999);
        x.count(0, 1, 12 - 1);
        due("by one no CHANCE", x.chance(0, 3, true), 0);
        // 2 by 531441 of 1000000000 is 3763.3..
        odds(x, 0, 3, 0, 1);
        odds(x, 0, 1, 1, 3);
    }

    private void withoutSaidCrumbs() {
        terms(4, "A WAY without SAID crumbs has the CHANCE 0, if the LAYER has some, else 1.");
        for (String wood : new String[] {"", "S009A09", "S001B01U01", "S001A01"}) {
            CharcoalFromAHearth x = hearth(wood);
            due("none SAID in " + wood, x.fire(0, 0, 2), 0);
            chance(x, 0, 0, 1, 1);
            counts(x, 0, 0, 0, 0, 0, 0, 0, 99);
            chance(x, 0, 0, 1, 1);
            odds(x, 0, 0, 1, 4);
            x.count(0, 5, 1);
            chance(x, 0, 0, 0, 1);
            counts(x, 1, 12);
            chance(x, 1, 0, 0, 1);
            due("no parts", x.odds(1, 0, true), STATE);
        }
        CharcoalFromAHearth x = hearth("S001");
        x.way(3, 9, 0, NONE, NONE);
        odds(x, 0, 3, 1, 4);
        x.count(0, 0, 1);
        odds(x, 0, 3, 0, 1);
        odds(x, 0, 0, 1, 3);
    }

    private void likeliestOfLikeOnes() {
        terms(4, "LIKELIEST: the WAY with the greatest ODDS; of like ones the least.");
        CharcoalFromAHearth x = hearth(SIXTY);
        for (int way = 0; way < 4; way++) {
            x.way(way, 9, 30, 0, 2);
        }
        x.count(0, 0, 6);
        due("all alike", x.likeliest(0), 0);
        // 1 by 30 and 1 by 29 to the power of 6: one part each. By 28: two parts.
        x.way(1, 9, 29, 0, 2);
        due("by CHANCE the second, by ODDS alike", x.likeliest(0), 0);
        chance(x, 0, 1, 1, 594823321);
        odds(x, 0, 1, 1, 4);
        x.way(3, 9, 28, 0, 2);
        due("two parts", x.likeliest(0), 3);
        odds(x, 0, 3, 2, 5);
        x.way(2, 9, 28, 0, 2);
        due("two of them", x.likeliest(0), 2);
        x.way(1, 9, 28, 0, 2);
        due("three of them", x.likeliest(0), 1);
        x.way(0, 9, 28, 0, 2);
        due("four of them", x.likeliest(0), 0);
        x.way(2, 9, 25, 0, 2);
        due("one has the greatest, four parts", x.likeliest(0), 2);
        odds(x, 0, 2, 2, 5);
        due("an empty LAYER", x.likeliest(1), 0);
    }

    private void howFar() {
        terms(4, "HOW FAR: the mean of miles of WAYS by ODDS.");
        CharcoalFromAHearth x = hearth("S001S101B01B11");
        far(x, 0, 9, 1);
        int[] miles = {0, 9, 9, 9};
        for (int way = 0; way < 4; way++) {
            x.way(way, miles[way], 60, NONE, NONE);
        }
        far(x, 0, 27, 4);
        x.way(1, 0, 60, NONE, NONE);
        x.way(2, 0, 60, NONE, NONE);
        far(x, 0, 9, 4);
        x.way(3, 0, 60, NONE, NONE);
        far(x, 0, 0, 1);
        x.way(3, 9, 60, NONE, 1);
        x.count(0, 1, 1);
        far(x, 0, 0, 1);
        x.count(0, 1, 0);
        x.count(0, 0, 12);
        // 1 by 4096 three times, which is 244140 parts each, and 1: 9000000000 by 1000732420.
        far(x, 0, 450000000, 50036621);
        x.way(0, 1, 60, NONE, NONE);
        due("miles that one goes, not that one walks", x.walk(3), 0);
    }

    private void lacksWhere() {
        terms(4, "LACKS: a SORT that stands within the miles of a WAY and is not in a LAYER:");
        CharcoalFromAHearth x = hearth("S001S111S221S331D15D29");
        for (int miles = 0; miles <= 9; miles++) {
            x.way(0, miles, 60, NONE, NONE);
            due("0 miles off, by " + miles, x.lacks(0, 0, 0), 5);
            due("5 miles off, by " + miles, x.lacks(0, 0, 1), miles >= 5 ? 5 : 0);
            due("9 miles off, by " + miles, x.lacks(0, 0, 2), miles >= 9 ? 5 : 0);
            due("3 miles off, by " + miles, x.lacks(0, 0, 3), miles >= 3 ? 5 : 0);
            due("nowhere, by " + miles, x.lacks(0, 0, 4), 0);
        }
        x = hearth("S001S031");
        x.way(0, 2, 1, NONE, NONE);
        due("at one of two PLACES", x.lacks(0, 0, 0), 5);
        terms(4, "(0: it does not stand there, or it is in the LAYER.)");
        due("one in the LAYER", x.count(0, 0, 1), 0);
        due("it is", x.lacks(0, 0, 0), 0);
        due("99 in the LAYER", x.count(0, 0, 99), 1);
        due("it is", x.lacks(0, 0, 0), 0);
        due("none in the LAYER", x.count(0, 0, 0), 99);
        due("it is not", x.lacks(0, 0, 0), 5);
        counts(x, 0, 0, 1, 1, 1, 1, 1, 99);
        due("others are, and UNSAID", x.lacks(0, 0, 0), 5);
        due("another does not stand there", x.lacks(1, 0, 1), 0);
        x.way(1, 9, 60, NONE, 1);
        due("though it is never taken", x.lacks(1, 1, 1), 0);
    }

    private int why(String wood, int much, int liked, int never) {
        CharcoalFromAHearth x = withLayers(Checks.withWood(wood), 1);
        x.way(0, 1, much, liked, never);
        return x.lacks(0, 0, 0);
    }

    private void lacksWhy() {
        terms(4, "WHY, the first of these: 1 it is never taken; 2 none of it is GATHERED; 3 all of it goes to ash;"
            + " 4 it is never SAID; 5 so few are that it was luck: else.");
        due("1", why("S001", 60, NONE, 0), 1);
        due("1, though liked", why("S001", 60, 0, 0), 1);
        due("1 ahead of 2", why("S001", 0, NONE, 0), 1);
        due("1 ahead of 3", why("S001A01", 60, NONE, 0), 1);
        due("2, nothing is", why("S001", 0, NONE, NONE), 2);
        due("2, others are", why("S001S102", 1, NONE, NONE), 2);
        due("2, the liked are", why("S009S111", 1, 1, NONE), 2);
        due("2 ahead of 3 and 4", why("S001A09U09", 0, NONE, NONE), 2);
        due("3, of one", why("S001A01", 60, NONE, NONE), 3);
        due("3, of nine", why("S009A09", 60, NONE, NONE), 3);
        due("3 ahead of 4", why("S009A09U09", 60, NONE, NONE), 3);
        due("not 3, of two", why("S002A05", 60, NONE, NONE), 5);
        due("3, of two", why("S002A06", 60, NONE, NONE), 3);
        due("not 3, of eleven", why("S009S012A09", 60, NONE, NONE), 5);
        due("not 3, one of two was GATHERED, but it is not ash", why("S002", 1, NONE, NONE), 5);
        due("4, of one crumb", why("S001B01U01", 60, NONE, NONE), 4);
        due("4, of nine crumbs", why("S001B09U09", 60, NONE, NONE), 4);
        due("not 4, of ten crumbs", why("S005U09", 60, NONE, NONE), 5);
        due("not 4, of two crumbs", why("S001U05", 60, NONE, NONE), 5);
        due("4, of two crumbs", why("S001U06", 60, NONE, NONE), 4);
        due("5, of one crumb", why("S001B01", 60, NONE, NONE), 5);
        due("5, of many", why("S009S019B09", 60, 0, NONE), 5);
    }

    // ---- promises 24 to 29

    private void promise24() {
        promise(24, "THE CHANCE of a LAYER by a WAY. UNKNOWN; STATE: it is not asked.");
        Made made = () -> {
            CharcoalFromAHearth x = hearth(SIXTY);
            x.way(0, 9, 30, NONE, 2);
            x.count(0, 0, 12);
            x.count(1, 0, 13);
            return x;
        };
        chance(made.make(), 0, 0, 1, 531441000000000000L);
        refusedEach(beyond(0, 5), made, "layer", UNKNOWN, (x, no) -> x.chance(no, 0, true));
        refusedEach(beyond(0, 3), made, "way", UNKNOWN, (x, no) -> x.chance(0, no, true));
        refusedEach(beyond(0, 3), made, "way, not asked of the LAYER", UNKNOWN, (x, no) -> x.chance(1, no, false));
        refused(made, "not asked of the LAYER", STATE, x -> x.chance(1, 0, true));
        refused(made, "not asked of the FIRE", STATE, x -> x.chance(0, 1, true));
        refused(made, "of an empty LAYER", STATE, x -> x.chance(2, 1, true));
        refused(made, "not asked of both", STATE, x -> x.chance(1, 1, false));
    }

    private void promise25() {
        promise(25, "THE ODDS. UNKNOWN;");
        CharcoalFromAHearth x = hearth("S001S101B01B11");
        x.way(2, 9, 60, NONE, 0);
        x.count(0, 0, 1);
        odds(x, 0, 0, 1, 3);
        odds(x, 0, 2, 0, 1);
        odds(x, 5, 3, 1, 4);
        refusedEach(beyond(0, 5), Samples::half, "layer", UNKNOWN, (y, no) -> y.odds(no, 3, true));
        refusedEach(beyond(0, 3), Samples::half, "way", UNKNOWN, (y, no) -> y.odds(0, no, true));
        refusedEach(beyond(0, 3), Samples::half, "way, not asked", UNKNOWN, (y, no) -> y.odds(5, no, false));
    }

    private void promise25NotAsked() {
        promise(25, "STATE: it is not asked of some WAY,");
        for (int way = 0; way < 4; way++) {
            int some = way;
            Made made = () -> {
                CharcoalFromAHearth x = hearth(SIXTY);
                for (int each = 0; each < 4; each++) {
                    x.way(each, 9, each == some ? 31 : 30, NONE, NONE);
                }
                return x;
            };
            CharcoalFromAHearth x = made.make();
            due("not asked of " + way, x.chance(0, way, true), STATE);
            due("asked of another", x.chance(0, 3 - way, true), 1);
            for (int by = 0; by < 4; by++) {
                int other = by;
                refused(made, "odds of " + by, STATE, y -> y.odds(0, other, true));
            }
            refused(made, "likeliest", STATE, y -> y.likeliest(0));
            refused(made, "far", STATE, y -> y.far(0, true));
            x.way(way, 9, 30, NONE, NONE);
            odds(x, 0, way, 1, 4);
            x.count(0, 0, 13);
            due("13 counted", x.odds(0, way, true), STATE);
            x.count(0, 0, 0);
            odds(x, 0, way, 1, 4);
        }
    }

    private void promise25NoSuchParts() {
        promise(25, "or no WAY has such parts.");
        Made made = () -> {
            CharcoalFromAHearth x = hearth("S009S101B01B11");
            x.count(0, 2, 1);
            x.count(1, 1, 10);
            x.count(2, 1, 9);
            return x;
        };
        for (int way = 0; way < 4; way++) {
            int by = way;
            refused(made, "no CHANCE", STATE, x -> x.odds(0, by, true));
            refused(made, "too little CHANCE", STATE, x -> x.odds(1, by, false));
        }
        CharcoalFromAHearth x = made.make();
        odds(x, 2, 3, 1, 4);
        x.way(0, 9, 60, NONE, 1);
        odds(x, 2, 0, 0, 1);
        odds(x, 2, 3, 1, 3);
        x.way(1, 9, 60, NONE, 1);
        x.way(2, 9, 60, NONE, 1);
        odds(x, 2, 3, 1, 1);
        x.way(3, 9, 60, NONE, 1);
        due("none has such now", x.odds(2, 3, true), STATE);
    }

    private void promise26() {
        promise(26, "LIKELIEST. UNKNOWN; STATE.");
        CharcoalFromAHearth x = hearth("S001S101B01B11");
        due("0", x.likeliest(5), 0);
        for (int way = 0; way < 4; way++) {
            x.way(way, 9, 60, NONE, 1);
            x.count(0, 0, 1);
            due("the one that says no other", x.likeliest(0), way);
            x.way(way, 9, 60, NONE, NONE);
        }
        x.way(0, 9, 60, NONE, 0);
        x.way(3, 9, 60, NONE, 1);
        due("3", x.likeliest(0), 3);
        x.count(0, 0, 13);
        due("not asked", x.likeliest(0), STATE);
        x.count(0, 0, 12);
        due("asked", x.likeliest(0), 3);
        x.count(0, 2, 1);
        due("not asked again", x.likeliest(0), STATE);
        counts(x, 0, 0, 0, 1);
        due("no parts", x.likeliest(0), STATE);
        refused(Samples::half, "not asked", STATE, y -> y.likeliest(5));
        refused(Samples::half, "no parts", STATE, y -> y.likeliest(3));
        refusedEach(beyond(0, 5), Samples::half, "layer", UNKNOWN, (y, no) -> y.likeliest(no));
    }

    private void promise27() {
        promise(27, "HOW FAR. UNKNOWN; STATE.");
        CharcoalFromAHearth x = hearth("S001S101B01B11");
        far(x, 5, 9, 1);
        x.count(0, 0, 12);
        far(x, 0, 9, 1);
        x.count(0, 1, 1);
        due("13", x.far(0, true), STATE);
        due("13, below", x.far(0, false), STATE);
        counts(x, 0, 0, 0, 1);
        due("no parts", x.far(0, true), STATE);
        due("no parts, below", x.far(0, false), STATE);
        refused(Samples::half, "not asked", STATE, y -> y.far(5, true));
        refused(Samples::half, "no parts", STATE, y -> y.far(3, false));
        refusedEach(beyond(0, 5), Samples::half, "layer", UNKNOWN, (y, no) -> y.far(no, true));
    }

    private void promise28() {
        promise(28, "LACKS: WHY. UNKNOWN: layer, way, sort.");
        CharcoalFromAHearth x = hearth("S501");
        due("lacks(5, 3, 5)", x.lacks(5, 3, 5), 5);
        due("lacks(0, 0, 0)", x.lacks(0, 0, 0), 0);
        due("it changes nothing", x.counted(5, 5), 0);
        refusedEach(beyond(0, 5), Samples::half, "layer", UNKNOWN, (y, no) -> y.lacks(no, 3, 5));
        refusedEach(beyond(0, 3), Samples::half, "way", UNKNOWN, (y, no) -> y.lacks(5, no, 5));
        refusedEach(beyond(0, 5), Samples::half, "sort", UNKNOWN, (y, no) -> y.lacks(5, 3, no));
        refused(Samples::half, "UNSAID", UNKNOWN, y -> y.lacks(5, 3, 6));
    }

    private void countNext() {
        terms(5, "TO COUNT NEXT: the LAYER at which the greatest ODDS are least; of like ones the first"
            + " (those that are not asked count as 0).");
        CharcoalFromAHearth x = hearth("S001S101B01B11");
        x.way(3, 9, 60, NONE, 1);
        due("all alike, 1 by 4", x.next(), 0);
        x.count(0, 0, 1);
        // 1, and one half three times: 2 by 5.
        due("the first of the others", x.next(), 1);
        for (int layer = 1; layer < 6; layer++) {
            x.count(layer, 0, 2);
        }
        // 1, and a quarter three times: 4 by 7.
        due("the least of the greatest", x.next(), 0);
        x.count(0, 0, 3);
        due("the first of like ones", x.next(), 1);
        x.count(5, 0, 1);
        due("the last", x.next(), 5);
        x.count(4, 0, 13);
        due("one that is not asked counts as 0", x.next(), 4);
        x.count(2, 2, 1);
        due("one of which no WAY has parts, too", x.next(), 2);
        x.count(2, 2, 0);
        x.count(4, 0, 12);
        due("asked again", x.next(), 5);
        x.way(0, 9, 60, NONE, NONE);
        x.count(3, 6, 99);
        due("UNSAID is not counted in it", x.next(), 5);
        CharcoalFromAHearth y = hearth(SIXTY);
        counts(y, 0, 1);
        due("none is asked", y.next(), 0);
    }

    private void promise29() {
        promise(29, "TO COUNT NEXT; NONE: there are no LAYERS.");
        due("none", new CharcoalFromAHearth().next(), NONE);
        due("one", layers(1).next(), 0);
        due("six", layers(6).next(), 0);
        CharcoalFromAHearth x = layers(2);
        x.count(1, 0, 99);
        due("two", x.next(), 1);
        x.count(0, 0, 99);
        due("two alike", x.next(), 0);
        refused(CharcoalFromAHearth::new, "next() of none", NONE, CharcoalFromAHearth::next);
        refused(Samples::half, "next() of six, the first without parts", 0, CharcoalFromAHearth::next);
    }
}
