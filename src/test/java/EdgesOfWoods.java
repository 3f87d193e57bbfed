/** Refusals and fractions; group 1 of the Terms; promises 1 to 8. */
final class EdgesOfWoods extends Edges {
    private static final String SIXTEEN = "S001S011S021S031S101S111S121S131S201S211S221S231S301S311S321S331";
    private static final String EIGHTEEN = "B01B11B21B31B41B51A01A11A21A31A41A51U01U11U21U31U41U51";

    EdgesOfWoods(Checks checks, Document document) {
        super(checks, document);
    }

    @Override
    void run() {
        callsOfAnObject();
        refusalsInOrder();
        refusedChangesNothing();
        noneIs();
        fractions();
        refusalsOfFractions();
        sorts();
        textIsBytes();
        woodOfParts();
        eachAtMostOnce();
        partS();
        partB();
        partsAAndU();
        partD();
        faultAtTheFirstByte();
        faultWhateverCame();
        faultLengthSetAside();
        faultAtItsEnd();
        faultNone();
        promise1();
        promise2Bytes();
        promise2Refused();
        promise3();
        promise4();
        promise5();
        promise5Refused();
        promise6();
        promise7();
        promise8();
    }

    private static CharcoalFromAHearth text(String text) {
        CharcoalFromAHearth x = new CharcoalFromAHearth();
        Checks.tell(x, text);
        return x;
    }

    // ---- what it is

    private void callsOfAnObject() {
        whatItIs("An object is used for at most 512 calls after it has been made; what later calls answer is free.");
        CharcoalFromAHearth x = new CharcoalFromAHearth();
        due("call 1", x.layer(), 0);
        for (int call = 2; call <= 511; call++) {
            due("call " + call, x.count(0, 5, call % 100), call == 2 ? 0 : (call - 1) % 100);
        }
        due("call 512", x.counted(0, 5), 11);
        x = new CharcoalFromAHearth();
        for (int call = 1; call <= 512; call += 2) {
            due("call " + call, x.write(1 + call % 8, 0), 1 + call % 8);
            due("call " + (call + 1), x.wipe(), 1 + call % 8);
        }
    }

    // ---- refusals and fractions

    private void refusalsInOrder() {
        terms(0, "REFUSALS, of several the first that a call names: UNKNOWN (there is no such SORT, PLACE, LAYER, WAY,"
            + " BEAM, SLOT), OUTSIDE (another number is not as told), STATE (as told), FULL.");
        due("UNKNOWN", CharcoalFromAHearth.UNKNOWN, -1);
        due("OUTSIDE", CharcoalFromAHearth.OUTSIDE, -2);
        due("STATE", CharcoalFromAHearth.STATE, -3);
        due("FULL", CharcoalFromAHearth.FULL, -4);
        Made full = Samples::full;
        refused(full, "sorted: sort, what", UNKNOWN, x -> x.sorted(6, 3));
        refused(full, "way: way, all others", UNKNOWN, x -> x.way(4, 10, 61, 6, 6));
        refused(full, "going: way, what", UNKNOWN, x -> x.going(4, 4));
        refused(full, "fire: way, what", UNKNOWN, x -> x.fire(4, 0, 3));
        refused(full, "fire: sort, what", UNKNOWN, x -> x.fire(0, 6, 3));
        refused(full, "count: layer, v", UNKNOWN, x -> x.count(6, 0, 100));
        refused(full, "count: sort, v", UNKNOWN, x -> x.count(0, 7, -1));
        refused(full, "share: sort, and no COUNTS", UNKNOWN, x -> x.share(4, 6, true));
        refused(full, "chance: way, and not asked", UNKNOWN, x -> x.chance(5, 4, true));
        refused(full, "odds: way, and not asked", UNKNOWN, x -> x.odds(5, -1, true));
        refused(full, "again: slot, and none kept", UNKNOWN, x -> x.again(2));
        refused(full, "crumb: sort, and full", UNKNOWN, x -> x.crumb(7));
        refused(full, "twig: layer, a, b, and full", UNKNOWN, x -> x.twig(6, 0, 0));
        refused(full, "twig: layer, and full", UNKNOWN, x -> x.twig(6, 1, 1));
        refused(full, "beam: layer, rings, date, and full", UNKNOWN, x -> x.beam(6, 0, -1, true));
        refused(full, "beam: layer, and full", UNKNOWN, x -> x.beam(6, 1, 0, true));
        refused(full, "write: none, and full", OUTSIDE, x -> x.write(0, 0));
        refused(full, "write: nine, and full", OUTSIDE, x -> x.write(9, 0));
        refused(full, "twig: a, and full", OUTSIDE, x -> x.twig(0, 100, 1));
        refused(full, "twig: b, and full", OUTSIDE, x -> x.twig(0, 1, 0));
        refused(full, "beam: rings, and full", OUTSIDE, x -> x.beam(0, 301, 0, true));
        refused(full, "beam: date, and full", OUTSIDE, x -> x.beam(0, 1, 3001, true));
    }

    private void refusedChangesNothing() {
        terms(0, "What is refused changes nothing.");
        refused(Samples::full, "one refused call behind another", FULL, x -> {
            x.write(0, 0x53303039);
            x.write(8, 0x5330303953303039L);
            x.write(1, 'S');
            x.sorted(6, 0);
            x.way(4, 9, 60, 1, 1);
            x.way(1, 9, 60, 1, 6);
            x.way(1, 9, 61, 1, 1);
            x.count(0, 0, 100);
            x.count(6, 0, 1);
            x.crumb(1);
            x.crumb(7);
            x.pour(6);
            x.stop(3, 1);
            x.missed(0, 49);
            x.share(4, 0, true);
            x.odds(5, 0, true);
            x.twig(0, 1, 99);
            x.beam(0, 300, 3000, true);
            x.keep(2);
            x.again(1);
            x.again(-1);
            return x.layer();
        });
        refused(Samples::half, "wood() of a FAULT", STATE, CharcoalFromAHearth::wood);
    }

    private void noneIs() {
        terms(0, "NONE is -9.");
        due("NONE", CharcoalFromAHearth.NONE, -9);
        CharcoalFromAHearth x = layers(1);
        due("fault()", x.fault(), -9);
        due("going(0, 2)", x.going(0, 2), -9);
        due("way with -9", x.way(0, 0, 10, -9, -9), 0);
        due("stop(0, 1)", x.stop(0, 1), -9);
        due("missed(0, 1)", x.missed(0, 1), -9);
        due("earliest(0)", x.earliest(0), -9);
        due("next() of none", new CharcoalFromAHearth().next(), -9);
    }

    private void fractions() {
        terms(0, "FRACTIONS are told above (upper = true), below (1 and more), in least terms;");
        CharcoalFromAHearth x = withLayers(Checks.withWood("S004S104B01B11"), 2);
        counts(x, 0, 2, 4);
        share(x, 0, 0, 1, 3);
        share(x, 0, 1, 2, 3);
        share(x, 0, 2, 0, 1);
        counts(x, 0, 99, 0);
        share(x, 0, 0, 1, 1);
        counts(x, 0, 1, 1);
        chance(x, 0, 0, 1, 4);
        x.count(0, 2, 1);
        chance(x, 0, 0, 0, 1);
        chance(x, 1, 0, 1, 1);
        odds(x, 1, 3, 1, 4);
        far(x, 1, 0, 1);
        x.way(0, 9, 10, NONE, NONE);
        far(x, 1, 9, 4);
        x.way(1, 9, 10, NONE, NONE);
        far(x, 1, 9, 2);
        x.way(2, 9, 0, NONE, NONE);
        x.way(3, 9, 0, NONE, NONE);
        far(x, 1, 9, 1);
        counts(x, 1, 0, 0, 1);
        due("odds of no parts are no fraction", x.odds(1, 0, false), STATE);
        counts(x, 1, 1, 0, 0);
        odds(x, 1, 2, 0, 1);
        odds(x, 1, 1, 1, 2);
    }

    private void refusalsOfFractions() {
        terms(0, "refusals of them are told likewise.");
        for (boolean upper : new boolean[] {true, false}) {
            refused(Samples::half, "share, layer " + upper, UNKNOWN, x -> x.share(6, 0, upper));
            refused(Samples::half, "share, sort " + upper, UNKNOWN, x -> x.share(0, 6, upper));
            refused(Samples::half, "share, no COUNTS " + upper, STATE, x -> x.share(4, 0, upper));
            refused(Samples::half, "chance, layer " + upper, UNKNOWN, x -> x.chance(6, 0, upper));
            refused(Samples::half, "chance, way " + upper, UNKNOWN, x -> x.chance(0, 4, upper));
            refused(Samples::half, "chance, not asked " + upper, STATE, x -> x.chance(5, 0, upper));
            refused(Samples::half, "odds, layer " + upper, UNKNOWN, x -> x.odds(-1, 0, upper));
            refused(Samples::half, "odds, way " + upper, UNKNOWN, x -> x.odds(0, -1, upper));
            refused(Samples::half, "odds, not asked " + upper, STATE, x -> x.odds(5, 0, upper));
            refused(Samples::half, "odds, no parts " + upper, STATE, x -> x.odds(3, 0, upper));
            refused(Samples::half, "far, layer " + upper, UNKNOWN, x -> x.far(6, upper));
            refused(Samples::half, "far, not asked " + upper, STATE, x -> x.far(5, upper));
            refused(Samples::half, "far, no parts " + upper, STATE, x -> x.far(3, upper));
        }
    }

    // ---- group 1

    private void sorts() {
        terms(1, "SORTS are 0 to 5.");
        CharcoalFromAHearth x = withLayers(Checks.withWood("S001S539B51B01"), 1);
        for (int sort = 0; sort <= 5; sort += 5) {
            due("stands " + sort, x.stands(sort, sort == 0 ? 0 : 3), sort == 0 ? 1 : 9);
            due("sorted " + sort, x.sorted(sort, 0), 1);
            due("liked and never " + sort, x.way(0, 9, 60, sort, sort), sort == 0 ? 0 : 9);
            due("gathered " + sort, x.gathered(1, sort, 0), sort == 0 ? 1 : 0);
            due("fire " + sort, x.fire(1, sort, 1), sort == 0 ? 1 : 0);
            due("count " + sort, x.count(0, sort, 1), 0);
            due("counted " + sort, x.counted(0, sort), 1);
            due("crumb " + sort, x.crumb(sort), sort == 0 ? 1 : 2);
            due("share " + sort, x.share(0, sort, true), 1);
            due("lacks " + sort, x.lacks(0, 0, sort), 0);
        }
        int[] no = beyond(0, 5);
        refusedEach(no, Samples::half, "stands", UNKNOWN, (y, sort) -> y.stands(sort, 0));
        refusedEach(no, Samples::half, "sorted", UNKNOWN, (y, sort) -> y.sorted(sort, 0));
        refusedEach(no, Samples::half, "gathered", UNKNOWN, (y, sort) -> y.gathered(0, sort, 0));
        refusedEach(no, Samples::half, "fire", UNKNOWN, (y, sort) -> y.fire(0, sort, 0));
        refusedEach(no, Samples::half, "share", UNKNOWN, (y, sort) -> y.share(0, sort, false));
        refusedEach(no, Samples::half, "lacks", UNKNOWN, (y, sort) -> y.lacks(0, 0, sort));
    }

    private void textIsBytes() {
        terms(1, "THE TEXT is bytes (64 at most).");
        CharcoalFromAHearth x = new CharcoalFromAHearth();
        for (int at = 0; at < 64; at++) {
            due("byte " + at, x.write(1, SIXTEEN.charAt(at)), at + 1);
        }
        due("the 65th", x.write(1, 'B'), FULL);
        due("64 stay", x.all(0), 64);
        due("as they were", x.fault(), NONE);
        due("sixteen PARTS", x.wood(), 16);
        due("the last of them", x.stands(3, 3), 1);
        for (int sign = 0; sign < 256; sign++) {
            CharcoalFromAHearth y = new CharcoalFromAHearth();
            due("a byte of " + sign, y.write(1, sign), 1);
            due("as a number below zero", y.write(1, sign - 256), 2);
            due("both are bytes", y.all(0), 2);
        }
    }

    private void woodOfParts() {
        terms(1, "A WOOD is a TEXT of PARTS, none or more,");
        CharcoalFromAHearth x = Checks.withWood("S009");
        x.wipe();
        due("none", x.wood(), 0);
        due("nothing stands by it", x.all(5), 0);
        due("one", text("D00").wood(), 1);
        due("eighteen", text(EIGHTEEN).wood(), 18);
        due("twenty-one", text(EIGHTEEN + "D01D11D21").wood(), 21);
        due("one byte is no PART", text("S").wood(), STATE);
        due("nor are two", text("B0").wood(), STATE);
        due("nor three of S", text("S00").wood(), STATE);
        due("three of B are", text("B01").wood(), 1);
    }

    /** Each byte behind a text: those of signs can stand there, all others can not. */
    private void canFollow(String ahead, String signs) {
        for (int sign = 0; sign < 256; sign++) {
            CharcoalFromAHearth x = text(ahead);
            x.write(1, sign);
            if (signs.indexOf((char) sign) >= 0) {
                String text = ahead + (char) sign;
                due(text + " can be", x.fault(), endsWithAPart(text) ? NONE : text.length());
            } else {
                due(ahead + " and " + sign + " can not be", x.fault(), ahead.length());
                due(ahead + " and " + sign + " is no WOOD", x.wood(), STATE);
            }
        }
    }

    private static boolean endsWithAPart(String text) {
        int at = 0;
        while (at < text.length()) {
            at += text.charAt(at) == 'S' ? 4 : 3;
        }
        return at == text.length();
    }

    private void eachAtMostOnce() {
        terms(1, "of a kind (and its SORT, PLACE, both) at most once:");
        canFollow("S001S0", "123");
        canFollow("S001S1", "0123");
        canFollow("S531S5", "012");
        canFollow("S021S5", "0123");
        canFollow("S001S021S031S0", "1");
        canFollow("S001S011S021S031S", "12345");
        canFollow("B01B", "12345");
        canFollow("B51B", "01234");
        canFollow("B01A", "012345");
        canFollow("A00A", "12345");
        canFollow("A59A", "01234");
        canFollow("A01U", "012345");
        canFollow("U00U", "12345");
        canFollow("U50U", "01234");
        canFollow("U01S", "012345");
        canFollow("D00D", "123");
        canFollow("D39D", "012");
        canFollow("D01B", "012345");
        canFollow("S001D", "0123");
        canFollow("B01B11B21B31B41B", "5");
        canFollow("B01B11B21B31B41B51", "SAUD");
        canFollow("A01A11A21A31A41", "SBAUD");
        canFollow("A01A11A21A31A41A51", "SBUD");
        canFollow("U51U41U31U21U11U01", "SBAD");
        canFollow("D00D10D20", "SBAUD");
        canFollow("D00D10D20D30", "SBAU");
        canFollow("S001S011S021S031S101S111S121S131", "SBAUD");
        CharcoalFromAHearth x = text("S001S012S103S114");
        due("both are others", x.wood(), 4);
        due("one stands", x.stands(0, 0), 1);
        due("and four", x.stands(1, 1), 4);
        refused(() -> text("S001S001"), "wood() of the same twice", STATE, CharcoalFromAHearth::wood);
        refused(() -> text("B01B02"), "wood() of another number", STATE, CharcoalFromAHearth::wood);
    }

    private void partS() {
        terms(1, "Sspn   of SORT s n pieces (1 to 9) stand at PLACE p (0 to 3) (else none)");
        canFollow("", "SBAUD");
        canFollow("S", "012345");
        canFollow("S0", "0123");
        canFollow("S5", "0123");
        canFollow("S00", "123456789");
        canFollow("S53", "123456789");
        canFollow("S539", "SBAUD");
        CharcoalFromAHearth x = Checks.withWood("S001S539");
        due("one of SORT 0 at PLACE 0", x.stands(0, 0), 1);
        due("nine of SORT 5 at PLACE 3", x.stands(5, 3), 9);
        due("else none, of the SORT", x.stands(0, 3), 0);
        due("else none, at the PLACE", x.stands(4, 3), 0);
        due("in all", x.all(5), 10);
        refused(() -> text("S000"), "wood() of no pieces", STATE, CharcoalFromAHearth::wood);
        refused(() -> text("S041"), "wood() of PLACE 4", STATE, CharcoalFromAHearth::wood);
        refused(() -> text("S601"), "wood() of SORT 6", STATE, CharcoalFromAHearth::wood);
    }

    private void partB() {
        terms(1, "Bsk    a piece of SORT s breaks into k crumbs (1 to 9; else 2)");
        canFollow("B", "012345");
        canFollow("B0", "123456789");
        canFollow("B5", "123456789");
        canFollow("B09", "SBAUD");
        CharcoalFromAHearth x = Checks.withWood("B01B59S001S101S501");
        due("one", x.sorted(0, 0), 1);
        due("nine", x.sorted(5, 0), 9);
        due("else two", x.sorted(1, 0), 2);
        due("one crumb", x.fire(0, 0, 1), 1);
        due("nine crumbs", x.fire(0, 5, 1), 9);
        due("else two crumbs", x.fire(0, 1, 1), 2);
        refused(() -> text("B00"), "wood() of no crumbs", STATE, CharcoalFromAHearth::wood);
        refused(() -> text("B61"), "wood() of SORT 6", STATE, CharcoalFromAHearth::wood);
    }

    private void partsAAndU() {
        terms(1, "Asx    of SORT s x tenths of all pieces (0 to 9) go to ash (else 0)");
        canFollow("A", "012345");
        canFollow("A0", "0123456789");
        canFollow("A5", "0123456789");
        canFollow("A09", "SBAUD");
        CharcoalFromAHearth x = Checks.withWood("A00A59S005S105S505");
        x.way(0, 0, 60, NONE, NONE);
        due("none", x.sorted(0, 1), 0);
        due("nine", x.sorted(5, 1), 9);
        due("else none", x.sorted(1, 1), 0);
        due("none to ash", x.fire(0, 0, 0), 0);
        due("nine tenths to ash", x.fire(0, 5, 0), 5);
        due("else none to ash", x.fire(0, 1, 0), 0);
        refused(() -> text("A60"), "wood() of SORT 6", STATE, CharcoalFromAHearth::wood);
        terms(1, "Usx    of SORT s of each ten crumbs x (0 to 9) can not be said (else 0)");
        canFollow("U", "012345");
        canFollow("U0", "0123456789");
        canFollow("U5", "0123456789");
        canFollow("U09", "SBAUD");
        x = Checks.withWood("U00U59S005S105S505");
        x.way(0, 0, 60, NONE, NONE);
        due("none", x.sorted(0, 2), 0);
        due("nine", x.sorted(5, 2), 9);
        due("else none", x.sorted(1, 2), 0);
        due("all ten said", x.fire(0, 0, 2), 10);
        due("one of ten said", x.fire(0, 5, 2), 1);
        due("else all ten said", x.fire(0, 1, 2), 10);
        refused(() -> text("U60"), "wood() of SORT 6", STATE, CharcoalFromAHearth::wood);
    }

    private void partD() {
        terms(1, "Dpm    PLACE p is m miles off (0 to 9; else p)");
        canFollow("D", "0123");
        canFollow("D0", "0123456789");
        canFollow("D3", "0123456789");
        canFollow("D39", "SBAUD");
        CharcoalFromAHearth x = Checks.withWood("D09D30");
        due("nine", x.miles(0), 9);
        due("none", x.miles(3), 0);
        due("else 1", x.miles(1), 1);
        due("else 2", x.miles(2), 2);
        refused(() -> text("D40"), "wood() of PLACE 4", STATE, CharcoalFromAHearth::wood);
        x = new CharcoalFromAHearth();
        due("else 0, without a text", x.miles(0), 0);
        due("else 3, without a text", x.miles(3), 3);
    }

    private void fault(String text, int want) {
        CharcoalFromAHearth x = text(text);
        due("FAULT of " + text, x.fault(), want);
        due("again", x.fault(), want);
        due("the text stays", x.all(0), text.length());
        due("no WOOD yet", x.all(5), 0);
        due("whether a WOOD", x.wood() == STATE ? 0 : 1, want == NONE ? 1 : 0);
    }

    private void faultAtTheFirstByte() {
        terms(1, "FAULT: the place (from 0 on) of the first byte by which THE TEXT can be no WOOD,");
        fault("X", 0);
        fault("XX", 0);
        fault("S6", 1);
        fault("S0X1", 2);
        fault("S04X", 2);
        fault("S000S000", 3);
        fault("B00", 2);
        fault("A0A", 2);
        fault("D4", 1);
        fault("S001X", 4);
        fault("S001S001", 6);
        fault("S001S00", 6);
        fault("B01B11B21B31B41B51B01", 18);
        fault("S001S011S021S031S041", 17);
        fault("B01A01U01D01S001S112S223S334B12A13U14D15B20", 42);
        String all = "S001B01A01U01D01S112B12A12U12D12S223B23A23U23D23S334B34A34U34D34";
        for (int at = 0; at < 64; at++) {
            StringBuilder text = new StringBuilder(all);
            text.setCharAt(at, ' ');
            due("a blank at " + at, text(text.toString()).fault(), at);
            text.setCharAt(at, (char) (all.charAt(at) | 0x80));
            due("a byte above 127 at " + at, text(text.toString()).fault(), at);
        }
        fault(all, NONE);
    }

    private void faultWhateverCame() {
        terms(1, "whatever came behind it");
        fault("B01B", 4);
        fault("B01B0", 4);
        fault("S001S011S021S031S", 17);
        fault("S001S011S021S031S0", 17);
        fault("B01B11B21B31B41B51", NONE);
        fault("B01B11B21B31B41B51B", 18);
        fault("A01A11A21A31A41A51A", 18);
        fault("U01U11U21U31U41U51U", 18);
        fault("D01D11D21D31D", 12);
        fault("S001S011S021S031S101S111S121S131S0", 33);
        CharcoalFromAHearth x = text("S6");
        due("S6", x.fault(), 1);
        Checks.tell(x, "001");
        due("mended by nothing behind it", x.fault(), 1);
    }

    private void faultLengthSetAside() {
        terms(1, "(its length set aside);");
        String sixty = SIXTEEN.substring(0, 60);
        fault(sixty + "B01", NONE);
        fault(sixty + "B01S", 64);
        fault(sixty + "B01B", 64);
        fault(sixty + "B01X", 63);
        fault(sixty + "S33", 63);
        fault(sixty + "S331", NONE);
        fault(EIGHTEEN + "D01D11D21", NONE);
        fault(EIGHTEEN + "D01D11D21D", 64);
        fault(EIGHTEEN + "D01D11D21S", 64);
        fault(EIGHTEEN + "D01D11D21U", 63);
        CharcoalFromAHearth x = text(sixty + "B01S");
        due("though no more can come", x.write(1, '0'), FULL);
        due("it stays so", x.fault(), 64);
    }

    private void faultAtItsEnd() {
        terms(1, "its length, if it is only not at its end;");
        String parts = "S539B59A59U59D39";
        for (int length = 0; length <= parts.length(); length++) {
            boolean whole = length == 0 || length == 4 || length == 7 || length == 10 || length == 13 || length == 16;
            fault(parts.substring(0, length), whole ? NONE : length);
        }
    }

    private void faultNone() {
        terms(1, "NONE: none (nor of an empty one).");
        fault("", NONE);
        fault("S001", NONE);
        fault(SIXTEEN, NONE);
        CharcoalFromAHearth x = text("X");
        due("a FAULT", x.fault(), 0);
        x.wipe();
        due("of one that was emptied", x.fault(), NONE);
    }

    // ---- promises 1 to 8

    private void promise1() {
        promise(1, "Nothing stands anywhere.");
        CharcoalFromAHearth x = new CharcoalFromAHearth();
        for (int sort = 0; sort < 6; sort++) {
            for (int place = 0; place < 4; place++) {
                due("stands", x.stands(sort, place), 0);
                due("gathered", x.gathered(3, sort, place), 0);
            }
            due("fire", x.fire(0, sort, 1), 0);
        }
        for (int what = 0; what < 6; what++) {
            due("all " + what, x.all(what), 0);
        }
        due("no LAYER", x.counted(0, 0), UNKNOWN);
        due("no BEAM", x.tooOld(0), UNKNOWN);
        due("none kept", x.again(0), STATE);
        due("an empty wood is as a new one", x.wood(), 0);
        due("nothing stands", x.all(5), 0);
    }

    private void promise2Bytes() {
        promise(2, "n bytes (1 to 8) of v, the lowest n, the highest of these first, come behind THE TEXT: how long it is.");
        String parts = "B01A02U03D04B15A16U17D18";
        for (int n = 1; n <= 8; n++) {
            for (long above : new long[] {0, -1L, 0x5330315331305332L}) {
                CharcoalFromAHearth x = new CharcoalFromAHearth();
                for (int at = 0; at < 24; at += n) {
                    String piece = parts.substring(at, Math.min(at + n, 24));
                    int many = piece.length();
                    long v = Checks.bytes(piece) | (many < 8 ? above << (8 * many) : 0);
                    due(n + " bytes of " + v, x.write(many, v), at + many);
                }
                due("eight PARTS by " + n, x.wood(), 8);
                due("the first", x.sorted(0, 0), 1);
                due("the last", x.miles(1), 8);
                due("one in the midst", x.sorted(1, 0), 5);
            }
        }
        CharcoalFromAHearth x = new CharcoalFromAHearth();
        due("eight, all ones", x.write(8, -1L), 8);
        due("the highest is the first", x.fault(), 0);
        x.wipe();
        due("eight, the highest bit set", x.write(8, Checks.bytes("S001B01A") | LEAST * 0x100000000L), 8);
        due("it is in the first", x.fault(), 0);
        x.wipe();
        due("eight, the lowest bit other", x.write(8, Checks.bytes("S001B01A") ^ 1), 8);
        due("it is in the last", x.fault(), 7);
        x.wipe();
        due("eight", x.write(8, Checks.bytes("S001B02A")), 8);
        due("not at its end", x.fault(), 8);
        due("one of eight", x.write(1, Checks.bytes("XXXXXXX5")), 9);
        due("it was the lowest", x.fault(), 9);
        due("the one to be said", x.write(1, '7'), 10);
        due("three PARTS", x.wood(), 3);
        due("of SORT 5", x.sorted(5, 1), 7);
    }

    private static CharcoalFromAHearth ofLength(int length) {
        return text(SIXTEEN.substring(0, length));
    }

    private void promise2Refused() {
        promise(2, "OUTSIDE; FULL: it would be longer than 64 (nothing comes).");
        refusedEach(beyond(1, 8), Samples::half, "write", OUTSIDE, (x, n) -> x.write(n, 0x53303039));
        refusedEach(beyond(1, 8), CharcoalFromAHearth::new, "write of a new one", OUTSIDE, (x, n) -> x.write(n, 'S'));
        for (int n = 1; n <= 8; n++) {
            int many = n;
            CharcoalFromAHearth x = ofLength(64 - n);
            due("up to 64 by " + n, x.write(n, -1L), 64);
            due("64 of them", x.all(0), 64);
            refused(() -> ofLength(65 - many), "up to 65 by " + n, FULL, y -> y.write(many, -1L));
            refused(() -> ofLength(64), "from 64 by " + n, FULL, y -> y.write(many, -1L));
        }
        CharcoalFromAHearth x = ofLength(60);
        due("five do not come", x.write(5, Checks.bytes("S3311")), FULL);
        due("nor any of them", x.all(0), 60);
        due("four do", x.write(4, Checks.bytes("S335")), 64);
        due("sixteen PARTS", x.wood(), 16);
        due("the last of them", x.stands(3, 3), 5);
    }

    private void promise3() {
        promise(3, "THE TEXT is empty: how long it was.");
        CharcoalFromAHearth x = new CharcoalFromAHearth();
        due("of none", x.wipe(), 0);
        x.write(1, 'X');
        due("of one", x.wipe(), 1);
        due("of none again", x.wipe(), 0);
        Checks.tell(x, SIXTEEN);
        x.wood();
        due("of 64", x.wipe(), 64);
        due("empty", x.all(0), 0);
        due("no FAULT", x.fault(), NONE);
        due("what stands, stands", x.all(5), 16);
        due("64 come anew", Checks.tell(x, SIXTEEN.replace('1', '2')), 64);
        x.wipe();
        due("one comes", x.write(1, 'D'), 1);
        due("none of the old is behind it", x.fault(), 1);
        x.wipe();
        due("no PARTS", x.wood(), 0);
        due("nothing stands now", x.all(5), 0);
    }

    private void promise4() {
        promise(4, "FAULT; NONE.");
        CharcoalFromAHearth x = text("S001");
        x.wood();
        due("NONE", x.fault(), NONE);
        Checks.tell(x, "S00");
        due("FAULT", x.fault(), 6);
        due("it changes no text", x.all(0), 7);
        due("nor what stands", x.stands(0, 0), 1);
        due("nor what is gathered", x.gathered(0, 0, 0), 1);
        x.wipe();
        Checks.tell(x, "S339B07");
        due("none of another", x.fault(), NONE);
        due("that is no WOOD yet", x.stands(3, 3), 0);
        due("nor breaks", x.sorted(0, 0), 2);
        due("THE WOOD stands yet", x.stands(0, 0), 1);
    }

    private void promise5() {
        promise(5, "THE TEXT (that stays as it is, as all else does) is THE WOOD: how many PARTS.");
        CharcoalFromAHearth x = Samples.half();
        x.wipe();
        Checks.tell(x, "S539B51");
        x.keep(1);
        due("two PARTS", x.wood(), 2);
        due("the text stays", x.all(0), 7);
        due("six LAYERS stay", x.all(1), 6);
        due("the row stays", x.all(2), 10);
        due("the same row", x.stop(1, 8), 10);
        due("TWIGS stay", x.all(3), 4);
        due("BEAMS stay", x.all(4), 3);
        due("pieces are others", x.all(5), 9);
        due("COUNTS stay", x.counted(0, 3), 9);
        due("UNSAID stay", x.counted(5, 6), 35);
        due("a WAY stays", x.going(0, 1), 4);
        due("it gathers others", x.gathered(0, 5, 3), 4);
        due("none of the old", x.gathered(0, 2, 2), 0);
        due("the old breaks no more so", x.sorted(0, 0), 2);
        due("the old ash is gone", x.sorted(1, 1), 0);
        due("the old is not UNSAID", x.sorted(2, 2), 0);
        due("the old miles are gone", x.miles(0), 0);
        due("a slot stays", x.again(0), 6);
        due("as it was kept", x.counted(0, 3), 0);
        due("two PARTS again", x.wood(), 2);
        Checks.tell(x, "S001");
        due("one more PART", x.wood(), 3);
        x.wipe();
        due("no PARTS", x.wood(), 0);
    }

    private void promise5Refused() {
        promise(5, "STATE: a FAULT.");
        refused(() -> text("S"), "wood() not at its end", STATE, CharcoalFromAHearth::wood);
        refused(() -> text("X"), "wood() of a byte", STATE, CharcoalFromAHearth::wood);
        refused(() -> {
            CharcoalFromAHearth x = Checks.withWood("S005B09A01U01D05");
            x.way(0, 5, 60, NONE, NONE);
            Checks.tell(x, "S119S221S331B1");
            return x;
        }, "wood() with good PARTS ahead", STATE, CharcoalFromAHearth::wood);
        CharcoalFromAHearth x = text("S005B0");
        due("refused", x.wood(), STATE);
        due("nothing of it stands", x.stands(0, 0), 0);
        x.write(1, '3');
        due("mended", x.wood(), 2);
        due("it stands", x.stands(0, 0), 5);
        x.write(1, 0);
        due("refused again", x.wood(), STATE);
        due("it stands yet", x.stands(0, 0), 5);
        due("and breaks so", x.sorted(0, 0), 3);
    }

    private void promise6() {
        promise(6, "How many pieces of a SORT stand at a PLACE. UNKNOWN.");
        CharcoalFromAHearth x = Checks.withWood("S001S539S032S503");
        int[][] want = new int[6][4];
        want[0][0] = 1;
        want[5][3] = 9;
        want[0][3] = 2;
        want[5][0] = 3;
        for (int sort = 0; sort < 6; sort++) {
            for (int place = 0; place < 4; place++) {
                due("stands(" + sort + ", " + place + ")", x.stands(sort, place), want[sort][place]);
            }
        }
        refusedEach(beyond(0, 5), Samples::half, "sort", UNKNOWN, (y, sort) -> y.stands(sort, 3));
        refusedEach(beyond(0, 3), Samples::half, "place", UNKNOWN, (y, place) -> y.stands(5, place));
        refusedEach(beyond(0, 3), Samples::half, "both", UNKNOWN, (y, no) -> y.stands(no == 4 ? 6 : no, no));
    }

    private void promise7() {
        promise(7, "Of a SORT k of B (what = 0), x of A (1), x of U (2). UNKNOWN; OUTSIDE.");
        CharcoalFromAHearth x = Checks.withWood("B09A08U07B51A52U53");
        int[][] want = {{9, 8, 7}, {2, 0, 0}, {2, 0, 0}, {2, 0, 0}, {2, 0, 0}, {1, 2, 3}};
        for (int sort = 0; sort < 6; sort++) {
            for (int what = 0; what <= 2; what++) {
                due("sorted(" + sort + ", " + what + ")", x.sorted(sort, what), want[sort][what]);
            }
        }
        refusedEach(beyond(0, 5), Samples::half, "sort", UNKNOWN, (y, sort) -> y.sorted(sort, 2));
        refusedEach(beyond(0, 2), Samples::half, "what", OUTSIDE, (y, what) -> y.sorted(5, what));
        refusedEach(beyond(0, 2), Samples::half, "sort and what", UNKNOWN, (y, what) -> y.sorted(6, what));
    }

    private void promise8() {
        promise(8, "Miles to a PLACE. UNKNOWN.");
        CharcoalFromAHearth x = Checks.withWood("D00D19D25");
        int[] want = {0, 9, 5, 3};
        for (int place = 0; place < 4; place++) {
            due("miles(" + place + ")", x.miles(place), want[place]);
        }
        refusedEach(beyond(0, 3), Samples::half, "miles", UNKNOWN, (y, place) -> y.miles(place));
    }
}
