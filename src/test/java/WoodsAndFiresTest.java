/** Promises 1 to 14: a new object, woods, ways, fires. */
public final class WoodsAndFiresTest {
    private static final int UNKNOWN = -1, OUTSIDE = -2, STATE = -3, FULL = -4, NONE = -9;
    private static final int LEAST = Integer.MIN_VALUE, MOST = Integer.MAX_VALUE;
    private static final Checks CHECKS = new Checks();

    public static void main(String[] args) {
        promise01NewObject();
        promise01ObjectsApart();
        promise02Write();
        promise02WriteFull();
        promise03Wipe();
        promise04FaultOfParts();
        promise04FaultOfSameParts();
        promise04FaultSetsLengthAside();
        promise05Wood();
        promise06Stands();
        promise07Sorted();
        promise08Miles();
        promise09Way();
        promise10Going();
        promise11GatheredByPlaces();
        promise11GatheredLikedAndNever();
        promise12Fire();
        promise13Unsaid();
        promise14Walk();
        CHECKS.end();
    }

    private static void due(String call, long got, long want) {
        CHECKS.due(call, got, want);
    }

    private static void promise01NewObject() {
        CharcoalFromAHearth x = new CharcoalFromAHearth();
        for (int sort = 0; sort < 6; sort++) {
            for (int place = 0; place < 4; place++) {
                due("1 stands", x.stands(sort, place), 0);
                due("1 gathered", x.gathered(0, sort, place), 0);
            }
            due("1 sorted 0", x.sorted(sort, 0), 2);
            due("1 sorted 1", x.sorted(sort, 1), 0);
            due("1 sorted 2", x.sorted(sort, 2), 0);
        }
        for (int place = 0; place < 4; place++) {
            due("1 miles", x.miles(place), place);
        }
        for (int way = 0; way < 4; way++) {
            due("1 far", x.going(way, 0), 0);
            due("1 much", x.going(way, 1), 10);
            due("1 liked", x.going(way, 2), NONE);
            due("1 never", x.going(way, 3), NONE);
            due("1 unsaid", x.unsaid(way), 0);
            due("1 walk", x.walk(way), 0);
        }
        for (int what = 0; what < 6; what++) {
            due("1 all", x.all(what), 0);
        }
        due("1 fault", x.fault(), NONE);
        due("1 counted", x.counted(0, 0), UNKNOWN);
        due("1 stop", x.stop(0, 1), NONE);
        due("1 next", x.next(), NONE);
        due("1 longest", x.longest(), 0);
        due("1 tooOld", x.tooOld(0), UNKNOWN);
        due("1 again 0", x.again(0), STATE);
        due("1 again 1", x.again(1), STATE);
        due("1 sweep", x.sweep(), 0);
        due("1 wipe", x.wipe(), 0);
    }

    private static void promise01ObjectsApart() {
        CharcoalFromAHearth x = Checks.withWood("S009");
        x.layer();
        x.crumb(1);
        x.way(0, 5, 5, 1, 2);
        x.keep(0);
        CharcoalFromAHearth y = new CharcoalFromAHearth();
        due("1 another's stands", y.stands(0, 0), 0);
        due("1 another's text", y.all(0), 0);
        due("1 another's layers", y.all(1), 0);
        due("1 another's row", y.all(2), 0);
        due("1 another's way", y.going(0, 0), 0);
        due("1 another's slot", y.again(0), STATE);
        due("1 the first's stands", x.stands(0, 0), 9);
    }

    private static void promise02Write() {
        CharcoalFromAHearth x = new CharcoalFromAHearth();
        due("2 write(3)", x.write(3, Checks.bytes("B07")), 3);
        due("2 the highest first", x.fault(), NONE);
        x.wood();
        due("2 what was written", x.sorted(0, 0), 7);
        due("2 only the lowest bytes", x.write(2, Checks.bytes("ABCDEFA1")), 5);
        due("2 write(1)", x.write(1, Checks.bytes("4") | 0x7fffffffffffff00L), 6);
        due("2 parts", x.wood(), 2);
        due("2 behind what there was", x.sorted(1, 1), 4);
        due("2 write(8)", x.write(8, Checks.bytes("U05D11S2")), 14);
        due("2 write(2)", x.write(2, Checks.bytes("29")), 16);
        due("2 parts of all", x.wood(), 5);
        due("2 number of U", x.sorted(0, 2), 5);
        due("2 number of S", x.stands(2, 2), 9);
        due("2 n = 0", x.write(0, 1), OUTSIDE);
        due("2 n = 9", x.write(9, 1), OUTSIDE);
        due("2 n = -1", x.write(-1, 1), OUTSIDE);
        due("2 n least", x.write(LEAST, 1), OUTSIDE);
        due("2 n most", x.write(MOST, 1), OUTSIDE);
        due("2 unchanged", x.all(0), 16);
        due("2 a byte below zero", x.write(1, -1L), 17);
        due("2 is a fault", x.fault(), 16);
        due("2 eight of them", x.write(8, -1L), 25);
        due("2 fault stays", x.fault(), 16);
    }

    private static void promise02WriteFull() {
        CharcoalFromAHearth x = new CharcoalFromAHearth();
        for (int length = 8; length <= 56; length += 8) {
            due("2 write up to 56", x.write(8, 0), length);
        }
        due("2 write 57 to 60", x.write(4, 0), 60);
        due("2 65 bytes", x.write(5, 0), FULL);
        due("2 68 bytes", x.write(8, 0), FULL);
        due("2 OUTSIDE ahead of FULL", x.write(9, 0), OUTSIDE);
        due("2 nothing came", x.all(0), 60);
        due("2 64 bytes", x.write(4, 0), 64);
        due("2 one more", x.write(1, 0), FULL);
        due("2 n = 0 when full", x.write(0, 0), OUTSIDE);
        due("2 wipe", x.wipe(), 64);
        due("2 from the start again", x.write(1, 0), 1);
    }

    private static void promise03Wipe() {
        CharcoalFromAHearth x = Checks.withWood("S015B03");
        due("3 wipe", x.wipe(), 7);
        due("3 empty", x.all(0), 0);
        due("3 wipe again", x.wipe(), 0);
        due("3 no fault", x.fault(), NONE);
        due("3 the wood stands", x.stands(0, 1), 5);
        Checks.tell(x, "A01");
        due("3 anew", x.all(0), 3);
        due("3 nothing of the old", x.wood(), 1);
    }

    private static void fault(String text, int want) {
        CharcoalFromAHearth x = new CharcoalFromAHearth();
        Checks.tell(x, text);
        due("4 fault of " + text, x.fault(), want);
        due("5 wood of " + text, x.wood() == STATE ? 1 : 0, want == NONE ? 0 : 1);
        due("4 text stays", x.all(0), text.length());
    }

    private static void promise04FaultOfParts() {
        fault("", NONE);
        fault("S", 1);
        fault("S0", 2);
        fault("S00", 3);
        fault("S001", NONE);
        fault("S539", NONE);
        fault("S6", 1);
        fault("S/", 1);
        fault("S04", 2);
        fault("S0/", 2);
        fault("S000", 3);
        fault("S00:", 3);
        fault("B", 1);
        fault("B5", 2);
        fault("B51", NONE);
        fault("B59", NONE);
        fault("B50", 2);
        fault("B6", 1);
        fault("A00", NONE);
        fault("A59", NONE);
        fault("A5:", 2);
        fault("A6", 1);
        fault("A0/", 2);
        fault("U00", NONE);
        fault("U59", NONE);
        fault("U6", 1);
        fault("U", 1);
        fault("D30", NONE);
        fault("D09", NONE);
        fault("D4", 1);
        fault("D3", 2);
        fault("D3:", 2);
        fault("D3/", 2);
        fault("U0/", 2);
        fault("U0:", 2);
        fault("B0:", 2);
        fault("C", 0);
        fault("s001", 0);
        fault("0", 0);
        fault(" ", 0);
        fault("\u0000", 0);
        fault("\u00d3001", 0);
        fault("S\u00b0", 1);
        fault("S001 B01", 4);
        fault("S001S0x1B00", 6);
        fault("A01U02B03D04S005", NONE);
        fault("A01U02B03D04S005S", 17);
    }

    private static void promise04FaultOfSameParts() {
        fault("S001S00", 6);
        fault("S001S002", 6);
        fault("S001S011S101S111", NONE);
        fault("S001S011S021S031S0", 17);
        fault("S001S011S021S031S1", 18);
        fault("S001S011S021S0", 14);
        fault("B01B0", 4);
        fault("B01B02", 4);
        fault("B01B11", NONE);
        fault("B01A01U01", NONE);
        fault("A01S001A0", 8);
        fault("U31U3", 4);
        fault("D21D2", 4);
        fault("D01D11D21D31", NONE);
        fault("D01D11D21D31D", 12);
        fault("D01D11D21D", 10);
        fault("B01B11B21B31B41B51", NONE);
        fault("B01B11B21B31B41B51B", 18);
        fault("B01B11B21B31B41B", 16);
        fault("A01A11A21A31A41A51A", 18);
        fault("U01U11U21U31U41U51U", 18);
        fault("U51U41U31U21U11U01A", 19);
        fault("B01B11B21B31B41B51D01D11D21D31A", 31);
    }

    private static void promise04FaultSetsLengthAside() {
        String fifteen = "S001S011S021S031S101S111S121S131S201S211S221S231S301S311S321";
        fault(fifteen + "S331", NONE);
        fault(fifteen + "B01", NONE);
        fault(fifteen + "B01S", 64);
        fault(fifteen + "S33", 63);
        fault(fifteen + "S32", 62);
        fault(fifteen + "B01B", 64);
        fault(fifteen + "B01X", 63);
    }

    private static void promise05Wood() {
        CharcoalFromAHearth x = new CharcoalFromAHearth();
        due("5 an empty text", x.wood(), 0);
        Checks.tell(x, "S001S115B27A38U49D05");
        due("5 six parts", x.wood(), 6);
        due("5 again the same", x.wood(), 6);
        due("5 the text stays", x.all(0), 20);
        due("5 S", x.stands(1, 1), 5);
        due("5 B", x.sorted(2, 0), 7);
        due("5 A", x.sorted(3, 1), 8);
        due("5 U", x.sorted(4, 2), 9);
        due("5 D", x.miles(0), 5);
        x.write(1, 'S');
        due("5 a fault at its end", x.wood(), STATE);
        due("5 it stands as it was", x.stands(1, 1), 5);
        x.write(1, 'S');
        due("5 a fault within", x.wood(), STATE);
        due("5 and still", x.sorted(2, 0), 7);
        due("5 pieces stand", x.all(5), 6);
        x.wipe();
        Checks.tell(x, "S202");
        due("5 a part read is no wood yet", x.stands(2, 0), 0);
        x.fault();
        due("5 nor by asking for faults", x.stands(2, 0), 0);
        x.layer();
        x.count(0, 2, 7);
        x.crumb(3);
        x.way(1, 4, 5, 0, 1);
        due("5 another wood", x.wood(), 1);
        due("5 its S", x.stands(2, 0), 2);
        due("5 none of the old S", x.stands(1, 1), 0);
        due("5 none of the old B", x.sorted(2, 0), 2);
        due("5 none of the old A", x.sorted(3, 1), 0);
        due("5 none of the old U", x.sorted(4, 2), 0);
        due("5 none of the old D", x.miles(0), 0);
        due("5 counts stay", x.counted(0, 2), 7);
        due("5 the row stays", x.all(2), 1);
        due("5 ways stay", x.going(1, 1), 5);
        x.wipe();
        due("5 an empty one", x.wood(), 0);
        due("5 nothing stands", x.all(5), 0);
    }

    private static void promise06Stands() {
        CharcoalFromAHearth x = Checks.withWood("S001S539S123S032S214");
        int[][] want = new int[6][4];
        want[0][0] = 1;
        want[5][3] = 9;
        want[1][2] = 3;
        want[0][3] = 2;
        want[2][1] = 4;
        for (int sort = 0; sort < 6; sort++) {
            for (int place = 0; place < 4; place++) {
                due("6 stands " + sort + " " + place, x.stands(sort, place), want[sort][place]);
            }
        }
        for (int no : new int[] {-1, 6, NONE, LEAST, MOST}) {
            due("6 sort " + no, x.stands(no, 0), UNKNOWN);
        }
        for (int no : new int[] {-1, 4, NONE, LEAST, MOST}) {
            due("6 place " + no, x.stands(0, no), UNKNOWN);
        }
    }

    private static void promise07Sorted() {
        CharcoalFromAHearth x = Checks.withWood("B01B59A19A50U03U49");
        int[][] want = {{1, 0, 3}, {2, 9, 0}, {2, 0, 0}, {2, 0, 0}, {2, 0, 9}, {9, 0, 0}};
        for (int sort = 0; sort < 6; sort++) {
            for (int what = 0; what < 3; what++) {
                due("7 sorted " + sort + " " + what, x.sorted(sort, what), want[sort][what]);
            }
        }
        for (int no : new int[] {-1, 6, LEAST, MOST}) {
            due("7 sort " + no, x.sorted(no, 0), UNKNOWN);
            due("7 UNKNOWN first " + no, x.sorted(no, 3), UNKNOWN);
        }
        for (int no : new int[] {-1, 3, LEAST, MOST}) {
            due("7 what " + no, x.sorted(0, no), OUTSIDE);
        }
    }

    private static void promise08Miles() {
        CharcoalFromAHearth x = Checks.withWood("D00D19D30");
        due("8 miles 0", x.miles(0), 0);
        due("8 miles 1", x.miles(1), 9);
        due("8 miles 2, not told", x.miles(2), 2);
        due("8 miles 3", x.miles(3), 0);
        for (int no : new int[] {-1, 4, LEAST, MOST}) {
            due("8 place " + no, x.miles(no), UNKNOWN);
        }
    }

    private static void promise09Way() {
        CharcoalFromAHearth x = new CharcoalFromAHearth();
        due("9 it was 0", x.way(0, 9, 60, 5, 0), 0);
        due("9 it was 9", x.way(0, 3, 0, NONE, NONE), 9);
        due("9 it was 3", x.way(0, 3, 1, 0, 5), 3);
        due("9 another", x.way(3, 7, 2, 2, 2), 0);
        due("9 it was 7", x.way(3, 0, 2, 2, 2), 7);
        x.way(1, 4, 5, 1, 2);
        for (int no : new int[] {-1, 4, LEAST, MOST}) {
            due("9 way " + no, x.way(no, 0, 0, NONE, NONE), UNKNOWN);
            due("9 UNKNOWN first " + no, x.way(no, 10, 0, NONE, NONE), UNKNOWN);
        }
        for (int no : new int[] {-1, 10, NONE, LEAST, MOST}) {
            due("9 far " + no, x.way(1, no, 3, 3, 3), OUTSIDE);
        }
        for (int no : new int[] {-1, 61, NONE, LEAST, MOST}) {
            due("9 much " + no, x.way(1, 3, no, 3, 3), OUTSIDE);
        }
        for (int no : new int[] {-1, 6, -8, -10, LEAST, MOST}) {
            due("9 liked " + no, x.way(1, 3, 3, no, 3), OUTSIDE);
            due("9 never " + no, x.way(1, 3, 3, 3, no), OUTSIDE);
        }
        due("9 unchanged far", x.going(1, 0), 4);
        due("9 unchanged much", x.going(1, 1), 5);
        due("9 unchanged liked", x.going(1, 2), 1);
        due("9 unchanged never", x.going(1, 3), 2);
    }

    private static void promise10Going() {
        CharcoalFromAHearth x = new CharcoalFromAHearth();
        x.way(2, 9, 60, 5, NONE);
        x.way(3, 1, 0, NONE, 0);
        int[][] want = {{0, 10, NONE, NONE}, {0, 10, NONE, NONE}, {9, 60, 5, NONE}, {1, 0, NONE, 0}};
        for (int way = 0; way < 4; way++) {
            for (int what = 0; what < 4; what++) {
                due("10 going " + way + " " + what, x.going(way, what), want[way][what]);
            }
        }
        for (int no : new int[] {-1, 4, LEAST, MOST}) {
            due("10 way " + no, x.going(no, 0), UNKNOWN);
            due("10 UNKNOWN first " + no, x.going(no, 4), UNKNOWN);
            due("10 what " + no, x.going(0, no), OUTSIDE);
        }
    }

    /** PLACES in the order of their miles: 3 (1 mile), 2 (2 miles), 0 and 1 (5 miles each). */
    private static final String FOUR_PLACES = "S003S012S122S131S233S303D05D15D22D31";

    private static void gathers(CharcoalFromAHearth x, String what, int far, int much, int liked, int never, int... pieces) {
        x.way(2, far, much, liked, never);
        int[][] want = new int[6][4];
        for (int i = 0; i < pieces.length; i += 3) {
            want[pieces[i]][pieces[i + 1]] = pieces[i + 2];
        }
        for (int sort = 0; sort < 6; sort++) {
            for (int place = 0; place < 4; place++) {
                due("11 " + what + ": gathered " + sort + " " + place, x.gathered(2, sort, place), want[sort][place]);
            }
        }
    }

    private static void promise11GatheredByPlaces() {
        CharcoalFromAHearth x = Checks.withWood(FOUR_PLACES);
        gathers(x, "none", 9, 0, NONE, NONE);
        gathers(x, "the most first", 9, 2, NONE, NONE, 2, 3, 2);
        gathers(x, "of like ones the least", 9, 3, NONE, NONE, 2, 3, 2, 1, 3, 1);
        gathers(x, "on to the next place", 9, 5, NONE, NONE, 2, 3, 3, 1, 3, 1, 1, 2, 1);
        gathers(x, "and the next", 9, 7, NONE, NONE, 2, 3, 3, 1, 3, 1, 1, 2, 2, 0, 0, 1);
        x = Checks.withWood(FOUR_PLACES);
        gathers(x, "in turns", 9, 9, NONE, NONE, 2, 3, 3, 1, 3, 1, 1, 2, 2, 0, 0, 2, 3, 0, 1);
        gathers(x, "all", 9, 60, NONE, NONE, 2, 3, 3, 1, 3, 1, 1, 2, 2, 0, 0, 3, 3, 0, 3, 0, 1, 2);
        gathers(x, "up to 5 miles", 5, 60, NONE, NONE, 2, 3, 3, 1, 3, 1, 1, 2, 2, 0, 0, 3, 3, 0, 3, 0, 1, 2);
        gathers(x, "up to 4 miles", 4, 60, NONE, NONE, 2, 3, 3, 1, 3, 1, 1, 2, 2);
        gathers(x, "up to 1 mile", 1, 60, NONE, NONE, 2, 3, 3, 1, 3, 1);
        gathers(x, "not going", 0, 60, NONE, NONE);
        x = Checks.withWood("S009S104D05D13");
        gathers(x, "the way of another wood", 4, 60, NONE, NONE);
        for (int no : new int[] {-1, 4, LEAST, MOST}) {
            due("11 way " + no, x.gathered(no, 0, 0), UNKNOWN);
            due("11 place " + no, x.gathered(0, 0, no), UNKNOWN);
        }
        for (int no : new int[] {-1, 6, LEAST, MOST}) {
            due("11 sort " + no, x.gathered(0, no, 0), UNKNOWN);
        }
    }

    private static void promise11GatheredLikedAndNever() {
        CharcoalFromAHearth x = Checks.withWood(FOUR_PLACES);
        gathers(x, "liked, the least place first", 9, 4, 0, NONE, 0, 0, 3, 0, 1, 1);
        gathers(x, "liked, the nearest first", 9, 2, 1, NONE, 1, 3, 1, 1, 2, 1);
        gathers(x, "liked, then others", 9, 5, 1, NONE, 1, 3, 1, 1, 2, 2, 2, 3, 2);
        gathers(x, "liked, but not in reach", 4, 3, 0, NONE, 2, 3, 2, 1, 3, 1);
        gathers(x, "liked, but none stands", 9, 3, 4, NONE, 2, 3, 2, 1, 3, 1);
        gathers(x, "never", 9, 4, NONE, 2, 1, 3, 1, 1, 2, 2, 0, 0, 1);
        gathers(x, "liked and never", 9, 4, 0, 0, 2, 3, 3, 1, 3, 1);
        gathers(x, "liked and never, all", 9, 60, 0, 0, 2, 3, 3, 1, 3, 1, 1, 2, 2, 3, 0, 3);
        gathers(x, "liked, and another never", 9, 6, 0, 2, 0, 0, 3, 0, 1, 2, 1, 3, 1);
        x = Checks.withWood("S009S103S012D13");
        gathers(x, "liked, at no miles and at the farthest", 3, 12, 0, NONE, 0, 0, 9, 0, 1, 2, 1, 0, 1);
        gathers(x, "liked, just not in reach", 2, 11, 0, NONE, 0, 0, 9, 1, 0, 2);
        gathers(x, "liked, at no miles", 0, 2, 1, NONE, 1, 0, 2);
        CharcoalFromAHearth y = new CharcoalFromAHearth();
        y.way(2, 9, 60, NONE, NONE);
        Checks.tell(y, "S002");
        due("11 ahead of the wood", y.gathered(2, 0, 0), 0);
        y.wood();
        due("11 behind it", y.gathered(2, 0, 0), 2);
        due("11 the ways as they are at first", y.gathered(0, 0, 0), 2);
        y.gathered(2, 0, 0);
        due("11 wood stands as it is", y.stands(0, 0), 2);
        CharcoalFromAHearth z = Checks.withWood("S009S109");
        int[] ten = {z.gathered(1, 0, 0), z.gathered(1, 1, 0)};
        due("11 ten pieces at first, of 0", ten[0], 5);
        due("11 ten pieces at first, of 1", ten[1], 5);
        z = Checks.withWood("S009S109S209S309S409S509S019S119D10");
        z.way(0, 0, 60, NONE, NONE);
        due("11 sixty pieces: the first place", z.gathered(0, 5, 0), 9);
        due("11 sixty pieces: 0 at the next", z.gathered(0, 0, 1), 3);
        due("11 sixty pieces: 1 at the next", z.gathered(0, 1, 1), 3);
    }

    private static void fire(CharcoalFromAHearth x, String what, int way, int sort, int ash, int crumbs, int said) {
        due("12 " + what + ": ash", x.fire(way, sort, 0), ash);
        due("12 " + what + ": crumbs", x.fire(way, sort, 1), crumbs);
        due("12 " + what + ": said", x.fire(way, sort, 2), said);
    }

    private static void promise12Fire() {
        CharcoalFromAHearth x = Checks.withWood("S009B03A05U03S105A12U15S203S314B39A39U39");
        x.way(1, 0, 60, NONE, NONE);
        fire(x, "parts count as one", 1, 0, 5, 12, 8);
        fire(x, "no parts", 1, 1, 1, 8, 4);
        fire(x, "else two crumbs", 1, 2, 0, 6, 6);
        fire(x, "not in reach", 1, 3, 0, 0, 0);
        fire(x, "none stands", 1, 4, 0, 0, 0);
        x.way(1, 1, 60, 3, NONE);
        fire(x, "all to ash", 1, 3, 4, 0, 0);
        fire(x, "the fire changes nothing", 1, 0, 5, 12, 8);
        due("12 the wood stands as it is", x.stands(0, 0), 9);
        x = Checks.withWood("S001S011D10A05");
        fire(x, "tenths of all of them, not place by place", 0, 0, 1, 2, 2);
        x = Checks.withWood("S001A01");
        fire(x, "one by a tenth", 0, 0, 1, 0, 0);
        x = Checks.withWood("S001B01U01");
        fire(x, "one crumb, not said", 0, 0, 0, 1, 0);
        x = Checks.withWood("S009S019S029S039B09D10D20D30A09U09");
        x.way(3, 0, 60, 0, NONE);
        fire(x, "many", 3, 0, 33, 27, 2);
        for (int no : new int[] {-1, 4, LEAST, MOST}) {
            due("12 way " + no, x.fire(no, 0, 0), UNKNOWN);
            due("12 UNKNOWN first, way " + no, x.fire(no, 0, 3), UNKNOWN);
        }
        for (int no : new int[] {-1, 6, LEAST, MOST}) {
            due("12 sort " + no, x.fire(0, no, 0), UNKNOWN);
            due("12 UNKNOWN first, sort " + no, x.fire(0, no, 3), UNKNOWN);
        }
        for (int no : new int[] {-1, 3, LEAST, MOST}) {
            due("12 what " + no, x.fire(0, 0, no), OUTSIDE);
        }
    }

    private static void promise13Unsaid() {
        CharcoalFromAHearth x = Checks.withWood("S009B03A05U03S105A12U15S203S314U31");
        x.way(1, 0, 60, NONE, NONE);
        x.way(2, 1, 60, NONE, NONE);
        x.way(3, 0, 60, NONE, 0);
        due("13 of two sorts", x.unsaid(1), 8);
        due("13 and a part of another", x.unsaid(2), 9);
        due("13 of one alone", x.unsaid(3), 4);
        due("13 ten pieces", x.unsaid(0), 5);
        for (int no : new int[] {-1, 4, LEAST, MOST}) {
            due("13 way " + no, x.unsaid(no), UNKNOWN);
        }
    }

    private static void promise14Walk() {
        CharcoalFromAHearth x = Checks.withWood(FOUR_PLACES);
        int[][] far = {{0, 60, 0}, {1, 60, 2}, {2, 60, 6}, {4, 60, 6}, {5, 60, 26}, {9, 4, 2}, {9, 5, 6}, {9, 7, 16}, {9, 0, 0}};
        for (int[] each : far) {
            x.way(1, each[0], each[1], NONE, NONE);
            due("14 walk " + each[0] + " " + each[1], x.walk(1), each[2]);
        }
        x.way(1, 9, 5, 0, NONE);
        due("14 for the liked ones to both", x.walk(1), 20);
        x.way(1, 9, 60, NONE, 1);
        due("14 not where nothing is taken", x.walk(1), 22);
        due("14 nothing in reach", x.walk(0), 0);
        x = Checks.withWood("S001S011");
        x.way(1, 1, 60, NONE, NONE);
        due("14 no miles to place 0", x.walk(1), 2);
        for (int no : new int[] {-1, 4, LEAST, MOST}) {
            due("14 way " + no, x.walk(no), UNKNOWN);
        }
    }
}
