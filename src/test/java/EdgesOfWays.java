/** Group 2 of the Terms; promises 9 to 14. */
final class EdgesOfWays extends Edges {
    /** 54 pieces at PLACE 0, 9 at PLACE 1; both no miles off. */
    private static final String SIXTY_THREE = "S009S109S209S309S409S509S019D10";

    EdgesOfWays(Checks checks, Document document) {
        super(checks, document);
    }

    @Override
    void run() {
        waysAreFour();
        howFarAndHowMuch();
        waysAtFirst();
        asLongAsThereAreSuch();
        theLikedSort();
        placeByPlace();
        neverTaken();
        toAsh();
        breaking();
        said();
        unsaidOfAll();
        fireChangesNothing();
        promise9();
        promise9Refused();
        promise10();
        promise11();
        promise12();
        promise13();
        promise14();
    }

    private CharcoalFromAHearth going(String wood, int far, int much, int liked, int never) {
        CharcoalFromAHearth x = Checks.withWood(wood);
        x.way(0, far, much, liked, never);
        return x;
    }

    /** What WAY 0 gathers: sort, place, pieces; and so on; of all others none. */
    private void gathers(String wood, int far, int much, int liked, int never, int... pieces) {
        CharcoalFromAHearth x = going(wood, far, much, liked, never);
        int[][] want = new int[6][4];
        for (int i = 0; i + 2 < pieces.length; i += 3) {
            want[pieces[i]][pieces[i + 1]] = pieces[i + 2];
        }
        for (int sort = 0; sort < 6; sort++) {
            for (int place = 0; place < 4; place++) {
                due("way(0, " + far + ", " + much + ", " + liked + ", " + never + ") in " + wood
                    + ": gathered(0, " + sort + ", " + place + ")", x.gathered(0, sort, place), want[sort][place]);
            }
        }
    }

    // ---- group 2

    private void waysAreFour() {
        terms(2, "A WAY (0 to 3) of gathering:");
        CharcoalFromAHearth x = withLayers(Checks.withWood("S001S012"), 1);
        for (int way = 0; way <= 3; way += 3) {
            due("way " + way, x.way(way, 1, 60, NONE, NONE), 0);
            due("going " + way, x.going(way, 0), 1);
            due("gathered " + way, x.gathered(way, 0, 1), 2);
            due("fire " + way, x.fire(way, 0, 2), 6);
            due("unsaid " + way, x.unsaid(way), 0);
            due("walk " + way, x.walk(way), 2);
            due("chance " + way, x.chance(0, way, true), 1);
            due("odds " + way, x.odds(0, way, false), 4);
            due("lacks " + way, x.lacks(0, way, 0), 5);
        }
        due("another WAY is as it was", x.going(1, 0), 0);
        int[] no = beyond(0, 3);
        refusedEach(no, Samples::half, "way", UNKNOWN, (y, way) -> y.way(way, 1, 1, 1, 1));
        refusedEach(no, Samples::half, "going", UNKNOWN, (y, way) -> y.going(way, 0));
        refusedEach(no, Samples::half, "gathered", UNKNOWN, (y, way) -> y.gathered(way, 0, 0));
        refusedEach(no, Samples::half, "fire", UNKNOWN, (y, way) -> y.fire(way, 0, 0));
        refusedEach(no, Samples::half, "unsaid", UNKNOWN, (y, way) -> y.unsaid(way));
        refusedEach(no, Samples::half, "walk", UNKNOWN, (y, way) -> y.walk(way));
        refusedEach(no, Samples::half, "chance", UNKNOWN, (y, way) -> y.chance(0, way, false));
        refusedEach(no, Samples::half, "odds", UNKNOWN, (y, way) -> y.odds(0, way, true));
        refusedEach(no, Samples::half, "lacks", UNKNOWN, (y, way) -> y.lacks(0, way, 0));
    }

    private void howFarAndHowMuch() {
        terms(2, "how far one goes (0 to 9 miles), how much (0 to 60 pieces a fire), which SORT is liked (or NONE),"
            + " which is never taken (or NONE);");
        CharcoalFromAHearth x = Checks.withWood(SIXTY_THREE.replace("D10", "D19"));
        due("no miles, no pieces", x.way(0, 0, 0, NONE, NONE), 0);
        due("no miles", x.going(0, 0), 0);
        due("no pieces", x.going(0, 1), 0);
        due("none gathered", x.gathered(0, 0, 0), 0);
        due("nine miles, 60 pieces", x.way(0, 9, 60, 0, 5), 0);
        due("nine miles", x.going(0, 0), 9);
        due("60 pieces", x.going(0, 1), 60);
        due("nine miles off", x.gathered(0, 0, 1), 9);
        due("SORT 5 not", x.gathered(0, 5, 0), 0);
        due("SORT 5 liked, SORT 0 not", x.way(0, 8, 60, 5, 0), 9);
        due("not nine miles off", x.gathered(0, 0, 1), 0);
        due("SORT 5", x.gathered(0, 5, 0), 9);
        due("liked 5", x.going(0, 2), 5);
        due("never 0", x.going(0, 3), 0);
        due("none liked, none not", x.way(0, 8, 60, NONE, NONE), 8);
        due("liked NONE", x.going(0, 2), NONE);
        due("never NONE", x.going(0, 3), NONE);
    }

    private void waysAtFirst() {
        terms(2, "at first 0, 10, NONE, NONE.");
        CharcoalFromAHearth x = Checks.withWood("S009S109S019");
        for (int way = 0; way < 4; way++) {
            due("far", x.going(way, 0), 0);
            due("much", x.going(way, 1), 10);
            due("liked", x.going(way, 2), NONE);
            due("never", x.going(way, 3), NONE);
            due("five of SORT 0", x.gathered(way, 0, 0), 5);
            due("five of SORT 1", x.gathered(way, 1, 0), 5);
            due("none a mile off", x.gathered(way, 0, 1), 0);
        }
    }

    private void asLongAsThereAreSuch() {
        terms(2, "GATHERED by a WAY: pieces one by one, as long as there are such and as much is not had:");
        gathers("S009", 9, 0, NONE, NONE);
        gathers("S009", 9, 0, 0, NONE);
        gathers("S009", 9, 1, NONE, NONE, 0, 0, 1);
        gathers("S009", 9, 1, 0, NONE, 0, 0, 1);
        gathers("S009", 9, 8, 0, NONE, 0, 0, 8);
        gathers("S009", 9, 9, NONE, NONE, 0, 0, 9);
        gathers("S009", 9, 10, NONE, NONE, 0, 0, 9);
        gathers("S009", 9, 60, 0, NONE, 0, 0, 9);
        gathers("", 9, 60, 0, NONE);
        gathers(SIXTY_THREE, 9, 53, NONE, NONE, 0, 0, 9, 1, 0, 9, 2, 0, 9, 3, 0, 9, 4, 0, 9, 5, 0, 8);
        gathers(SIXTY_THREE, 9, 54, NONE, NONE, 0, 0, 9, 1, 0, 9, 2, 0, 9, 3, 0, 9, 4, 0, 9, 5, 0, 9);
        gathers(SIXTY_THREE, 9, 55, NONE, NONE, 0, 0, 9, 1, 0, 9, 2, 0, 9, 3, 0, 9, 4, 0, 9, 5, 0, 9, 0, 1, 1);
        gathers(SIXTY_THREE, 9, 60, NONE, NONE, 0, 0, 9, 1, 0, 9, 2, 0, 9, 3, 0, 9, 4, 0, 9, 5, 0, 9, 0, 1, 6);
        gathers(SIXTY_THREE, 9, 18, 0, NONE, 0, 0, 9, 0, 1, 9);
        gathers(SIXTY_THREE, 9, 19, 0, NONE, 0, 0, 9, 0, 1, 9, 1, 0, 1);
    }

    private void theLikedSort() {
        terms(2, "of the liked SORT at all PLACES within its miles, the nearest first (of like ones the least PLACE);");
        String wood = "S002S012S022S032S109D05D15D22D31";
        gathers(wood, 5, 1, 0, NONE, 0, 3, 1);
        gathers(wood, 5, 2, 0, NONE, 0, 3, 2);
        gathers(wood, 5, 3, 0, NONE, 0, 3, 2, 0, 2, 1);
        gathers(wood, 5, 5, 0, NONE, 0, 3, 2, 0, 2, 2, 0, 0, 1);
        gathers(wood, 5, 6, 0, NONE, 0, 3, 2, 0, 2, 2, 0, 0, 2);
        gathers(wood, 5, 7, 0, NONE, 0, 3, 2, 0, 2, 2, 0, 0, 2, 0, 1, 1);
        gathers(wood, 5, 8, 0, NONE, 0, 3, 2, 0, 2, 2, 0, 0, 2, 0, 1, 2);
        gathers(wood, 5, 9, 0, NONE, 0, 3, 2, 0, 2, 2, 0, 0, 2, 0, 1, 2, 1, 0, 1);
        gathers(wood, 4, 60, 0, NONE, 0, 3, 2, 0, 2, 2);
        gathers(wood, 2, 60, 0, NONE, 0, 3, 2, 0, 2, 2);
        gathers(wood, 1, 60, 0, NONE, 0, 3, 2);
        gathers(wood, 0, 60, 0, NONE);
        gathers("S003S509S531", 2, 9, 5, NONE, 5, 0, 9);
        gathers("S003S509S531", 3, 10, 5, NONE, 5, 0, 9, 5, 3, 1);
        gathers("S003S509S531", 3, 11, 5, NONE, 5, 0, 9, 5, 3, 1, 0, 0, 1);
        gathers("S001S039D39", 9, 9, 0, NONE, 0, 0, 1, 0, 3, 8);
        gathers("S001S039D39", 8, 9, 0, NONE, 0, 0, 1);
        gathers("S109", 9, 3, 0, NONE, 1, 0, 3);
    }

    private void placeByPlace() {
        terms(2, "then PLACE by PLACE so, at each the SORT of which most stand there yet (of like ones the least),"
            + " again and again;");
        String wood = "S003S102S202";
        gathers(wood, 0, 1, NONE, NONE, 0, 0, 1);
        gathers(wood, 0, 2, NONE, NONE, 0, 0, 2);
        gathers(wood, 0, 3, NONE, NONE, 0, 0, 2, 1, 0, 1);
        gathers(wood, 0, 4, NONE, NONE, 0, 0, 2, 1, 0, 1, 2, 0, 1);
        gathers(wood, 0, 5, NONE, NONE, 0, 0, 3, 1, 0, 1, 2, 0, 1);
        gathers(wood, 0, 6, NONE, NONE, 0, 0, 3, 1, 0, 2, 2, 0, 1);
        gathers(wood, 0, 7, NONE, NONE, 0, 0, 3, 1, 0, 2, 2, 0, 2);
        gathers("S401S502", 0, 1, NONE, NONE, 5, 0, 1);
        gathers("S401S502", 0, 2, NONE, NONE, 5, 0, 1, 4, 0, 1);
        String places = "S001S119S221S339D05D15D24D39";
        gathers(places, 9, 1, NONE, NONE, 2, 2, 1);
        gathers(places, 9, 2, NONE, NONE, 2, 2, 1, 0, 0, 1);
        gathers(places, 9, 3, NONE, NONE, 2, 2, 1, 0, 0, 1, 1, 1, 1);
        gathers(places, 9, 11, NONE, NONE, 2, 2, 1, 0, 0, 1, 1, 1, 9);
        gathers(places, 9, 12, NONE, NONE, 2, 2, 1, 0, 0, 1, 1, 1, 9, 3, 3, 1);
        gathers(places, 8, 12, NONE, NONE, 2, 2, 1, 0, 0, 1, 1, 1, 9);
        gathers(places, 5, 12, NONE, NONE, 2, 2, 1, 0, 0, 1, 1, 1, 9);
        gathers(places, 4, 12, NONE, NONE, 2, 2, 1);
        gathers(places, 3, 12, NONE, NONE);
        gathers("S002S103", 0, 4, 0, NONE, 0, 0, 2, 1, 0, 2);
    }

    private void neverTaken() {
        terms(2, "the one never taken is not, also if it is liked.");
        gathers("S009S101", 0, 60, NONE, 0, 1, 0, 1);
        gathers("S009S101", 0, 60, 0, 0, 1, 0, 1);
        gathers("S501S009", 0, 60, 5, 5, 0, 0, 9);
        gathers("S501S009", 0, 60, 0, 5, 0, 0, 9);
        gathers("S501S009", 0, 60, 5, 0, 5, 0, 1);
        gathers("S009", 0, 60, NONE, 0);
        gathers("S009", 0, 60, 0, 0);
        gathers("S009S019S102S111", 9, 3, 0, 0, 1, 0, 2, 1, 1, 1);
    }

    private static int tenths(int many, int tenths) {
        int parts = 0;
        while (10 * parts < many * tenths) {
            parts++;
        }
        return parts;
    }

    private static String part(String kind, int number) {
        return kind + number;
    }

    private void toAsh() {
        terms(2, "A FIRE of it: of each SORT pieces that go to ash: x tenths of them (a part of one counts as one);");
        for (int x = 0; x <= 9; x++) {
            for (int pieces = 1; pieces <= 9; pieces++) {
                CharcoalFromAHearth one = going(part("S00", pieces) + part("A0", x), 0, 60, NONE, NONE);
                due(x + " tenths of " + pieces, one.fire(0, 0, 0), tenths(pieces, x));
                due("all others break", one.fire(0, 0, 1), 2 * (pieces - tenths(pieces, x)));
            }
            CharcoalFromAHearth many = going("S509S519S529S539" + part("A5", x), 9, 36, NONE, NONE);
            due(x + " tenths of 36", many.fire(0, 5, 0), tenths(36, x));
        }
        CharcoalFromAHearth x = going("S001S011S021S031A01", 9, 60, NONE, NONE);
        due("a tenth of four, of all PLACES together", x.fire(0, 0, 0), 1);
        x = going("S005S105A01A12", 0, 60, NONE, NONE);
        due("of each SORT: a tenth of five", x.fire(0, 0, 0), 1);
        due("of each SORT: two tenths of five", x.fire(0, 1, 0), 1);
        x = going("S009A05", 0, 2, NONE, NONE);
        due("of those GATHERED alone", x.fire(0, 0, 0), 1);
        x = going("S001A01", 0, 0, NONE, NONE);
        due("of none", x.fire(0, 0, 0), 0);
    }

    private void breaking() {
        terms(2, "all others break, k crumbs each.");
        for (int k = 1; k <= 9; k++) {
            CharcoalFromAHearth x = going("S009S101A01A11" + part("B0", k) + part("B1", k), 0, 60, NONE, NONE);
            due("eight pieces by " + k, x.fire(0, 0, 1), 8 * k);
            due("none by " + k, x.fire(0, 1, 1), 0);
        }
        CharcoalFromAHearth x = going("S009S019S029S039B09D10D20D30", 0, 60, NONE, NONE);
        due("36 pieces by 9", x.fire(0, 0, 1), 324);
    }

    private void said() {
        terms(2, "SAID are of each SORT crumbs, less x tenths that can not be said (a part of one counts as one);");
        for (int x = 0; x <= 9; x++) {
            for (int crumbs = 1; crumbs <= 9; crumbs++) {
                CharcoalFromAHearth one = going("S001" + part("B0", crumbs) + part("U0", x), 0, 60, NONE, NONE);
                due(x + " tenths of " + crumbs, one.fire(0, 0, 2), crumbs - tenths(crumbs, x));
                due("UNSAID", one.unsaid(0), tenths(crumbs, x));
                due("crumbs", one.fire(0, 0, 1), crumbs);
            }
            CharcoalFromAHearth many = going("S009S019S029S039B09D10D20D30" + part("U0", x), 0, 60, NONE, NONE);
            due(x + " tenths of 324", many.fire(0, 0, 2), 324 - tenths(324, x));
        }
        CharcoalFromAHearth x = going("S002B01U05", 0, 60, NONE, NONE);
        due("five tenths of two, not one by one", x.fire(0, 0, 2), 1);
        x = going("S009A09U01B05", 0, 60, NONE, NONE);
        due("none break", x.fire(0, 0, 1), 0);
        due("none are SAID", x.fire(0, 0, 2), 0);
        due("none are UNSAID", x.unsaid(0), 0);
    }

    private void unsaidOfAll() {
        terms(2, "UNSAID are these of all SORTS.");
        CharcoalFromAHearth x = going("S001S101S201S301S401S501U01U11U21U31U41U51", 0, 60, NONE, NONE);
        due("a part of one of each", x.unsaid(0), 6);
        x = going("S001S101S201S301S401S501U01U11U21U31U41U51", 0, 5, NONE, NONE);
        due("of five", x.unsaid(0), 5);
        x = going("S009S109B09B19U09", 0, 60, NONE, NONE);
        due("of one SORT", x.unsaid(0), 73);
        due("SAID ones of another", x.fire(0, 1, 2), 81);
    }

    private void fireChangesNothing() {
        terms(2, "A FIRE changes nothing: a WOOD stands as it is.");
        CharcoalFromAHearth x = going("S009B03A05U03", 0, 60, NONE, NONE);
        for (int again = 0; again < 3; again++) {
            due("gathered", x.gathered(0, 0, 0), 9);
            due("by another WAY too", x.gathered(1, 0, 0), 9);
            due("to ash", x.fire(0, 0, 0), 5);
            due("crumbs", x.fire(0, 0, 1), 12);
            due("SAID", x.fire(0, 0, 2), 8);
            due("UNSAID", x.unsaid(0), 4);
            due("walk", x.walk(0), 0);
            due("stands", x.stands(0, 0), 9);
            due("all that stand", x.all(5), 9);
            due("no crumbs in THE ROW", x.all(2), 0);
        }
    }

    // ---- promises 9 to 14

    private void promise9() {
        promise(9, "A WAY: how far it was.");
        CharcoalFromAHearth x = Checks.withWood("S009S109S019");
        due("at first", x.way(0, 9, 60, NONE, NONE), 0);
        due("nine", x.way(0, 0, 0, 0, 5), 9);
        due("none", x.way(0, 5, 1, 5, 0), 0);
        due("five", x.way(0, 5, 1, 5, 0), 5);
        due("what it gathers now", x.gathered(0, 1, 0), 1);
        due("not SORT 0 now", x.gathered(0, 0, 0), 0);
        due("another", x.way(3, 1, 2, 3, 4), 0);
        due("which was 1", x.way(3, 0, 2, 3, 4), 1);
        due("the first is as it was", x.going(0, 0), 5);
        due("others too", x.going(1, 1), 10);
    }

    private void promise9Refused() {
        promise(9, "UNKNOWN: way; OUTSIDE: far, much, liked, never (SORTS or NONE).");
        refusedEach(beyond(0, 3), Samples::half, "way", UNKNOWN, (x, no) -> x.way(no, 1, 1, 1, 1));
        refusedEach(beyond(0, 9), Samples::half, "far", OUTSIDE, (x, no) -> x.way(3, no, 1, 1, 1));
        refusedEach(beyond(0, 60), Samples::half, "much", OUTSIDE, (x, no) -> x.way(3, 1, no, 1, 1));
        int[] sorts = {-1, 6, -8, -10, -2, 256, 65536, NONE + 256, NONE - 65536, LEAST, MOST};
        refusedEach(sorts, Samples::half, "liked", OUTSIDE, (x, no) -> x.way(3, 1, 1, no, 1));
        refusedEach(sorts, Samples::half, "never", OUTSIDE, (x, no) -> x.way(3, 1, 1, 1, no));
        refusedEach(sorts, Samples::half, "liked, none never", OUTSIDE, (x, no) -> x.way(3, 1, 1, no, NONE));
        refusedEach(sorts, Samples::half, "never, none liked", OUTSIDE, (x, no) -> x.way(3, 1, 1, NONE, no));
        refused(Samples::half, "all but the way", OUTSIDE, x -> x.way(0, 10, 61, 6, 6));
        refused(Samples::half, "all of them", UNKNOWN, x -> x.way(-1, 10, 61, 6, 6));
    }

    private void promise10() {
        promise(10, "Of a WAY far (0), much (1), liked (2), never (3). UNKNOWN; OUTSIDE.");
        CharcoalFromAHearth x = new CharcoalFromAHearth();
        x.way(0, 9, 60, 5, 0);
        x.way(3, 0, 0, 0, 5);
        int[][] want = {{9, 60, 5, 0}, {0, 10, NONE, NONE}, {0, 10, NONE, NONE}, {0, 0, 0, 5}};
        for (int way = 0; way < 4; way++) {
            for (int what = 0; what < 4; what++) {
                due("going(" + way + ", " + what + ")", x.going(way, what), want[way][what]);
            }
        }
        refusedEach(beyond(0, 3), Samples::half, "way", UNKNOWN, (y, no) -> y.going(no, 3));
        refusedEach(beyond(0, 3), Samples::half, "what", OUTSIDE, (y, no) -> y.going(3, no));
        refusedEach(beyond(0, 3), Samples::half, "both", UNKNOWN, (y, no) -> y.going(no, no));
    }

    private void promise11() {
        promise(11, "How many pieces of a SORT are GATHERED at a PLACE by a WAY. UNKNOWN.");
        gathers("S001S539D30", 0, 60, NONE, NONE, 0, 0, 1, 5, 3, 9);
        CharcoalFromAHearth x = new CharcoalFromAHearth();
        x.way(3, 3, 60, NONE, NONE);
        Checks.tell(x, "S539S001");
        due("ahead of wood()", x.gathered(3, 5, 3), 0);
        x.wood();
        due("behind it", x.gathered(3, 5, 3), 9);
        due("by a WAY that goes not so far", x.gathered(2, 5, 3), 0);
        due("at its PLACE alone", x.gathered(3, 5, 0), 0);
        x.wipe();
        x.wood();
        due("of an empty wood", x.gathered(3, 5, 3), 0);
        refusedEach(beyond(0, 3), Samples::half, "way", UNKNOWN, (y, no) -> y.gathered(no, 5, 3));
        refusedEach(beyond(0, 5), Samples::half, "sort", UNKNOWN, (y, no) -> y.gathered(3, no, 3));
        refusedEach(beyond(0, 3), Samples::half, "place", UNKNOWN, (y, no) -> y.gathered(3, 5, no));
    }

    private void promise12() {
        promise(12, "Of a FIRE of a WAY pieces of a SORT that go to ash (what = 0), crumbs of it (1), SAID ones (2)."
            + " UNKNOWN; OUTSIDE.");
        CharcoalFromAHearth x = Checks.withWood("S009B03A05U03S505B55");
        x.way(3, 0, 60, NONE, NONE);
        int[][] want = {{5, 12, 8}, {0, 25, 25}};
        for (int what = 0; what <= 2; what++) {
            due("fire(3, 0, " + what + ")", x.fire(3, 0, what), want[0][what]);
            due("fire(3, 5, " + what + ")", x.fire(3, 5, what), want[1][what]);
            due("fire(3, 4, " + what + ")", x.fire(3, 4, what), 0);
        }
        refusedEach(beyond(0, 3), Samples::half, "way", UNKNOWN, (y, no) -> y.fire(no, 5, 2));
        refusedEach(beyond(0, 5), Samples::half, "sort", UNKNOWN, (y, no) -> y.fire(3, no, 2));
        refusedEach(beyond(0, 2), Samples::half, "what", OUTSIDE, (y, no) -> y.fire(3, 5, no));
        refusedEach(beyond(0, 2), Samples::half, "way and what", UNKNOWN, (y, no) -> y.fire(4, 5, no));
        refusedEach(beyond(0, 2), Samples::half, "sort and what", UNKNOWN, (y, no) -> y.fire(3, 6, no));
    }

    private void promise13() {
        promise(13, "How many crumbs of a FIRE are UNSAID. UNKNOWN.");
        CharcoalFromAHearth x = Checks.withWood("S009S019S029S039B09D10D20D30U09");
        due("ten pieces", x.unsaid(3), 81);
        x.way(3, 0, 60, NONE, NONE);
        due("36 pieces", x.unsaid(3), 292);
        x.way(3, 0, 0, NONE, NONE);
        due("no pieces", x.unsaid(3), 0);
        due("of an empty wood", new CharcoalFromAHearth().unsaid(0), 0);
        refusedEach(beyond(0, 3), Samples::half, "way", UNKNOWN, (y, no) -> y.unsaid(no));
    }

    private void walks(String wood, int far, int much, int liked, int never, int want) {
        due("walk of way(0, " + far + ", " + much + ", " + liked + ", " + never + ") in " + wood,
            going(wood, far, much, liked, never).walk(0), want);
    }

    private void promise14() {
        promise(14, "The miles one walks for a FIRE: of each PLACE at which something is GATHERED once there and back."
            + " UNKNOWN.");
        String four = "S001S011S021S031";
        walks(four, 0, 60, NONE, NONE, 0);
        walks(four, 1, 60, NONE, NONE, 2);
        walks(four, 3, 60, NONE, NONE, 12);
        walks(four, 9, 3, NONE, NONE, 6);
        walks(four, 9, 0, NONE, NONE, 0);
        walks(four, 9, 60, NONE, 0, 0);
        walks(four + "D09D19D29D39", 9, 60, NONE, NONE, 72);
        walks(four + "D09D19D29D39", 8, 60, NONE, NONE, 0);
        walks(four + "D00D10D20D30", 9, 60, NONE, NONE, 0);
        walks("S011S111S211S319", 9, 60, NONE, NONE, 2);
        walks("S011S119S231", 9, 2, 0, NONE, 2);
        walks("S011S119S231", 9, 2, 2, NONE, 8);
        walks("", 9, 60, NONE, NONE, 0);
        refusedEach(beyond(0, 3), Samples::half, "way", UNKNOWN, (y, no) -> y.walk(no));
    }
}
