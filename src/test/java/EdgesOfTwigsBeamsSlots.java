/** Group 5 of the Terms, but for TO COUNT NEXT; promises 30 to 38. */
final class EdgesOfTwigsBeamsSlots extends Edges {
    EdgesOfTwigsBeamsSlots(Checks checks, Document document) {
        super(checks, document);
    }

    @Override
    void run() {
        thicknessCut();
        sixteenTwigs();
        thinsFromOneToTheNext();
        longestOneBehindTheOther();
        eightBeams();
        ringsAndDates();
        whenItWasCut();
        noEarlier();
        tooOldByYears();
        slots();
        promise30();
        promise31();
        promise32();
        promise33();
        promise34();
        promise35();
        promise36();
        promise37();
        promise37OneSlotAndTheOther();
        promise37KeptWithoutLayers();
        promise37NoneKept();
        promise38();
    }

    /** TWIGS as thick as told, from 2 on: 1 along, as much across. */
    private static void twigs(CharcoalFromAHearth x, int layer, int... thick) {
        for (int each : thick) {
            x.twig(layer, 1, each);
        }
    }

    /** LAYERS, each with one TWIG as thick as told; 0: without. */
    private static CharcoalFromAHearth thick(int... thick) {
        CharcoalFromAHearth x = layers(thick.length);
        for (int layer = 0; layer < thick.length; layer++) {
            if (thick[layer] > 0) {
                twigs(x, layer, thick[layer]);
            }
        }
        return x;
    }

    // ---- group 5

    private void thicknessCut() {
        terms(5, "A TWIG has RINGS that bend: told by two points a, b (1 to 99) apart along and across:"
            + " it was as thick as (a a and b b) by b (cut), in all.");
        for (int a = 1; a <= 99; a++) {
            for (int from = 1; from <= 99; from += 16) {
                CharcoalFromAHearth x = layers(1);
                for (int b = from; b < Math.min(from + 16, 100); b++) {
                    // b whole times b b, and a a by b
                    due("twig(0, " + a + ", " + b + ")", x.twig(0, a, b), b + a * a / b);
                }
            }
        }
        int[] no = beyond(1, 99);
        refusedEach(no, Samples::half, "a", OUTSIDE, (x, a) -> x.twig(5, a, 99));
        refusedEach(no, Samples::half, "b", OUTSIDE, (x, b) -> x.twig(5, 99, b));
        refusedEach(no, Samples::half, "both", OUTSIDE, (x, each) -> x.twig(5, each, each));
    }

    private void sixteenTwigs() {
        terms(5, "TWIGS of a LAYER (16 at most in all):");
        CharcoalFromAHearth x = layers(6);
        for (int twig = 0; twig < 16; twig++) {
            due("of any LAYER", x.twig(twig % 6, 1, 50), 50);
            due("TWIGS", x.all(3), twig + 1);
        }
        for (int layer = 0; layer < 6; layer++) {
            due("no more of " + layer, x.twig(layer, 1, 1), FULL);
        }
        due("sixteen", x.all(3), 16);
        due("all alike, none THINS", x.longest(), 1);
        CharcoalFromAHearth y = layers(2);
        for (int twig = 0; twig < 16; twig++) {
            due("all of one LAYER", y.twig(1, 99, 1), 9802);
        }
        due("no more of it", y.twig(1, 1, 1), FULL);
        due("nor of the other", y.twig(0, 1, 1), FULL);
        refusedEach(new int[] {0, 3, 5}, Samples::full, "full", FULL, (z, layer) -> z.twig(layer, 99, 99));
        refusedEach(beyond(1, 99), Samples::full, "OUTSIDE and full", OUTSIDE, (z, a) -> z.twig(5, a, 1));
    }

    private void thinsFromOneToTheNext() {
        terms(5, "THINS from one LAYER to the next, if the mean of thickness is less;");
        due("less by one", thick(50, 49).thins(0), 1);
        due("alike", thick(50, 50).thins(0), 0);
        due("more by one", thick(50, 51).thins(0), 0);
        CharcoalFromAHearth x = thick(50, 50);
        twigs(x, 1, 49);
        due("less by a half", x.thins(0), 1);
        twigs(x, 1, 51);
        due("alike, of three", x.thins(0), 0);
        twigs(x, 0, 51);
        due("less by a half again", x.thins(0), 1);
        twigs(x, 1, 52);
        due("alike by the half", x.thins(0), 0);
        x = thick(10, 2);
        for (int twig = 0; twig < 7; twig++) {
            twigs(x, 1, 2);
        }
        due("more in all, less each", x.thins(0), 1);
        x = thick(2, 10);
        for (int twig = 0; twig < 7; twig++) {
            twigs(x, 0, 2);
        }
        due("less in all, more each", x.thins(0), 0);
        x = layers(2);
        for (int twig = 0; twig < 15; twig++) {
            x.twig(0, 99, 1);
        }
        x.twig(1, 99, 1);
        due("the thickest, alike", x.thins(0), 0);
        x = layers(2);
        x.twig(0, 99, 1);
        for (int twig = 0; twig < 14; twig++) {
            x.twig(1, 99, 1);
        }
        due("the thickest, alike too", x.thins(0), 0);
        x.twig(1, 1, 1);
        due("one of them is thin", x.thins(0), 1);
        x = layers(2);
        x.twig(0, 3, 2);
        x.twig(1, 1, 6);
        due("13 by 2 and 37 by 6, both cut to 6", x.thins(0), 0);
    }

    private void longestOneBehindTheOther() {
        terms(5, "LONGEST: the most LAYERS one behind the other (each with TWIGS) of which each THINS.");
        due("six", thick(9, 8, 7, 6, 5, 4).longest(), 6);
        due("all alike", thick(9, 9, 9, 9, 9, 9).longest(), 1);
        due("all thicker", thick(4, 5, 6, 7, 8, 9).longest(), 1);
        due("the first five", thick(9, 8, 7, 6, 5, 5).longest(), 5);
        due("the last five", thick(9, 9, 8, 7, 6, 5).longest(), 5);
        due("three and three", thick(9, 8, 7, 9, 8, 7).longest(), 3);
        due("two and four", thick(9, 8, 9, 8, 7, 6).longest(), 4);
        due("four and two", thick(9, 8, 7, 6, 9, 8).longest(), 4);
        due("a gap between", thick(9, 8, 0, 7, 6, 5).longest(), 3);
        due("a gap ahead", thick(0, 8, 7, 0, 6, 5).longest(), 2);
        due("gaps all over", thick(9, 0, 8, 0, 7, 0).longest(), 1);
        due("the last alone", thick(0, 0, 0, 0, 0, 5).longest(), 1);
        due("the first alone", thick(5, 0, 0, 0, 0, 0).longest(), 1);
        due("no TWIGS", thick(0, 0, 0, 0, 0, 0).longest(), 0);
        due("no LAYERS", thick().longest(), 0);
        due("one LAYER", thick(5).longest(), 1);
        due("two LAYERS", thick(5, 4).longest(), 2);
    }

    private void eightBeams() {
        terms(5, "BEAMS 0, 1, .. (8 at most):");
        CharcoalFromAHearth x = layers(6);
        x.beam(0, 1, 3000, false);
        for (int beam = 1; beam < 8; beam++) {
            due("not there yet", x.tooOld(beam), UNKNOWN);
            due("of any LAYER", x.beam(beam % 6, 1, 100 * beam, true), 100 * beam);
            due("its number", x.tooOld(beam), 3000 - 100 * beam);
            due("BEAMS", x.all(4), beam + 1);
        }
        for (int layer = 0; layer < 6; layer++) {
            due("no more of " + layer, x.beam(layer, 1, 1, true), FULL);
        }
        due("eight", x.all(4), 8);
        due("no ninth", x.tooOld(8), UNKNOWN);
        refusedEach(new int[] {0, 3, 5}, Samples::full, "full", FULL, (y, layer) -> y.beam(layer, 1, 3000, true));
        refusedEach(beyond(1, 300), Samples::full, "OUTSIDE and full", OUTSIDE, (y, rings) -> y.beam(5, rings, 1, true));
    }

    private void ringsAndDates() {
        terms(5, "a LAYER, RINGS 1 to 300 inside, a DATE 0 to 3000 of the midst (the first ring), or of the outermost one.");
        CharcoalFromAHearth x = layers(1);
        due("the least", x.beam(0, 1, 0, true), 0);
        due("the least of the outermost", x.beam(0, 1, 0, false), 0);
        due("most RINGS", x.beam(0, 300, 0, true), 299);
        due("most RINGS, outermost", x.beam(0, 300, 0, false), 0);
        due("the latest DATE", x.beam(0, 1, 3000, true), 3000);
        due("the latest DATE, outermost", x.beam(0, 1, 3000, false), 3000);
        due("most of both", x.beam(0, 300, 3000, true), 3299);
        due("most of both, outermost", x.beam(0, 300, 3000, false), 3000);
        for (boolean midst : new boolean[] {true, false}) {
            refusedEach(beyond(1, 300), Samples::half, "rings", OUTSIDE, (y, rings) -> y.beam(5, rings, 3000, midst));
            refusedEach(beyond(0, 3000), Samples::half, "date", OUTSIDE, (y, date) -> y.beam(5, 300, date, midst));
            refused(Samples::half, "rings and date", OUTSIDE, y -> y.beam(5, 0, 3001, midst));
        }
    }

    private void whenItWasCut() {
        terms(5, "When it was cut: the DATE, and RINGS less 1 more, if it is of the midst.");
        for (int rings : new int[] {1, 2, 150, 299, 300}) {
            CharcoalFromAHearth x = layers(1);
            due("of the midst, " + rings, x.beam(0, rings, 1000, true), 999 + rings);
            due("it is EARLIEST", x.earliest(0), 999 + rings);
            due("of the outermost, " + rings, x.beam(0, rings, 1000, false), 1000);
            due("EARLIEST stays", x.earliest(0), 999 + rings);
            due("TOO OLD", x.tooOld(1), rings - 1);
        }
    }

    private void noEarlier() {
        terms(5, "A LAYER's fire is no earlier than any BEAM of it was cut. EARLIEST of a LAYER: the latest such,"
            + " of it and of lower ones.");
        CharcoalFromAHearth x = layers(3);
        x.beam(1, 1, 100, false);
        due("below, none", x.earliest(0), NONE);
        due("of it", x.earliest(1), 100);
        due("of a lower one", x.earliest(2), 100);
        x.beam(1, 1, 99, false);
        due("not the earlier of it", x.earliest(1), 100);
        x.beam(1, 1, 101, false);
        due("the latest of it", x.earliest(1), 101);
        x.beam(2, 1, 100, false);
        due("of a lower one yet", x.earliest(2), 101);
        x.beam(2, 1, 102, false);
        due("of it now", x.earliest(2), 102);
        due("not of an upper one", x.earliest(1), 101);
        x.beam(0, 1, 3000, false);
        for (int layer = 0; layer < 3; layer++) {
            due("the lowest", x.earliest(layer), 3000);
        }
        x = layers(1);
        x.beam(0, 300, 0, false);
        due("the year 0 is one", x.earliest(0), 0);
    }

    private void tooOldByYears() {
        terms(5, "TOO OLD is a BEAM by how many years it was cut ahead of EARLIEST of its LAYER.");
        CharcoalFromAHearth x = layers(3);
        x.beam(1, 1, 100, false);
        due("itself", x.tooOld(0), 0);
        x.beam(1, 1, 100, false);
        due("the same year", x.tooOld(1), 0);
        x.beam(1, 1, 99, false);
        due("a year", x.tooOld(2), 1);
        x.beam(2, 1, 0, false);
        due("than a lower one", x.tooOld(3), 100);
        x.beam(2, 300, 3000, true);
        due("most years", x.tooOld(3), 3299);
        due("not than an upper one", x.tooOld(0), 0);
        x.beam(0, 1, 101, false);
        due("than the lowest", x.tooOld(0), 1);
        due("the lowest itself", x.tooOld(5), 0);
        due("the latest of all", x.tooOld(4), 0);
    }

    private void slots() {
        terms(5, "SLOTS 0 to 1 keep LAYERS, TWIGS and BEAMS.");
        CharcoalFromAHearth x = Samples.half();
        due("slot 0", x.keep(0), 6);
        due("slot 1", x.keep(1), 6);
        x.count(0, 0, 77);
        x.count(0, 6, 78);
        twigs(x, 5, 3);
        x.beam(5, 300, 3000, true);
        for (int slot = 0; slot <= 1; slot++) {
            due("again", x.again(slot), 6);
            due("COUNTS", x.counted(0, 0), 1);
            due("UNSAID", x.counted(0, 6), 30);
            due("TWIGS", x.all(3), 4);
            due("of their LAYERS", x.thins(4), STATE);
            due("BEAMS", x.all(4), 3);
            due("of their years", x.earliest(5), 149);
        }
        int[] no = beyond(0, 1);
        refusedEach(no, Samples::half, "keep", UNKNOWN, (y, slot) -> y.keep(slot));
        refusedEach(no, Samples::half, "again", UNKNOWN, (y, slot) -> y.again(slot));
    }

    // ---- promises 30 to 38

    private void promise30() {
        promise(30, "A TWIG of a LAYER: how thick it was. UNKNOWN; OUTSIDE: a, b; FULL: 16.");
        CharcoalFromAHearth x = layers(2);
        due("even", x.twig(0, 2, 2), 4);
        due("cut", x.twig(0, 3, 2), 6);
        due("a, then b", x.twig(1, 2, 3), 4);
        due("99 and 1", x.twig(1, 99, 1), 9802);
        due("1 and 99", x.twig(1, 1, 99), 99);
        due("99 and 99", x.twig(1, 99, 99), 198);
        due("six", x.all(3), 6);
        refusedEach(beyond(0, 5), Samples::half, "layer", UNKNOWN, (y, no) -> y.twig(no, 1, 1));
        refusedEach(beyond(0, 5), Samples::full, "layer, a, b, and full", UNKNOWN, (y, no) -> y.twig(no, 0, 100));
        refusedEach(beyond(1, 99), Samples::half, "a", OUTSIDE, (y, no) -> y.twig(0, no, 1));
        refusedEach(beyond(1, 99), Samples::half, "b", OUTSIDE, (y, no) -> y.twig(0, 1, no));
        refused(Samples::full, "full", FULL, y -> y.twig(0, 1, 1));
        x = layers(1);
        for (int twig = 1; twig < 16; twig++) {
            twigs(x, 0, 5);
        }
        x.keep(0);
        due("the sixteenth", x.twig(0, 1, 1), 2);
        due("full", x.twig(0, 1, 1), FULL);
        x.again(0);
        due("the sixteenth anew", x.twig(0, 1, 1), 2);
        due("full again", x.twig(0, 1, 1), FULL);
    }

    private void promise31() {
        promise(31, "Whether TWIGS THIN from a LAYER to the next: 1, 0. UNKNOWN;"
            + " STATE: there is no next one, or one of both has none.");
        due("1", thick(3, 2).thins(0), 1);
        due("0", thick(2, 2).thins(0), 0);
        due("from 4 to 5", thick(0, 0, 0, 0, 3, 2).thins(4), 1);
        refused(() -> thick(3, 2), "no next one", STATE, x -> x.thins(1));
        refused(() -> thick(3), "no next one of one", STATE, x -> x.thins(0));
        refused(() -> thick(6, 5, 4, 3, 2, 2), "no next one of six", STATE, x -> x.thins(5));
        refused(() -> thick(3, 0), "the next has none", STATE, x -> x.thins(0));
        refused(() -> thick(0, 3), "it has none", STATE, x -> x.thins(0));
        refused(() -> thick(0, 0), "both have none", STATE, x -> x.thins(0));
        refused(() -> thick(0, 3, 2), "no next one, that follows", STATE, x -> x.thins(2));
        refusedEach(new int[] {-1, 2, 5, LEAST, MOST}, () -> thick(3, 2), "layer", UNKNOWN, (x, no) -> x.thins(no));
        refusedEach(beyond(0, 5), Samples::half, "layer of six", UNKNOWN, (x, no) -> x.thins(no));
        CharcoalFromAHearth x = thick(3, 2);
        x.layer();
        due("a next one without TWIGS", x.thins(1), STATE);
        x.twig(2, 1, 1);
        due("a next one, alike", x.thins(1), 0);
    }

    private void promise32() {
        promise(32, "LONGEST: how many LAYERS; 0: none has TWIGS (1: none THINS).");
        due("no LAYERS", new CharcoalFromAHearth().longest(), 0);
        due("none has TWIGS", layers(6).longest(), 0);
        due("none THINS, of one", thick(3).longest(), 1);
        due("none THINS, of six", thick(3, 3, 3, 3, 3, 3).longest(), 1);
        due("none THINS, for a gap", thick(3, 0, 2).longest(), 1);
        due("one THINS", thick(3, 3, 2, 2).longest(), 2);
        due("two THIN", thick(3, 4, 3, 2).longest(), 3);
        due("five THIN", thick(7, 6, 5, 4, 3, 2).longest(), 6);
        CharcoalFromAHearth x = thick(3, 2);
        x.longest();
        due("it changes nothing", x.all(3), 2);
        twigs(x, 1, 4);
        due("no more so", x.longest(), 1);
    }

    private void promise33() {
        promise(33, "A BEAM: when it was cut. UNKNOWN; OUTSIDE: rings, date; FULL: 8.");
        CharcoalFromAHearth x = layers(2);
        due("of the midst", x.beam(0, 2, 10, true), 11);
        due("of the outermost", x.beam(1, 2, 10, false), 10);
        due("two", x.all(4), 2);
        due("the first is of LAYER 0", x.earliest(0), 11);
        due("the second is of LAYER 1", x.tooOld(1), 1);
        refusedEach(beyond(0, 5), Samples::half, "layer", UNKNOWN, (y, no) -> y.beam(no, 1, 1, true));
        refusedEach(beyond(0, 5), Samples::full, "layer, rings, date, and full", UNKNOWN, (y, no) -> y.beam(no, 0, -1, true));
        refusedEach(beyond(1, 300), Samples::half, "rings", OUTSIDE, (y, no) -> y.beam(0, no, 0, false));
        refusedEach(beyond(0, 3000), Samples::half, "date", OUTSIDE, (y, no) -> y.beam(0, 1, no, true));
        refusedEach(beyond(0, 3000), Samples::full, "date, and full", OUTSIDE, (y, no) -> y.beam(0, 1, no, true));
        refused(Samples::full, "full", FULL, y -> y.beam(0, 1, 0, true));
        x = layers(1);
        for (int beam = 0; beam < 7; beam++) {
            x.beam(0, 1, 5, true);
        }
        x.keep(0);
        due("the eighth", x.beam(0, 1, 9, true), 9);
        due("full", x.beam(0, 1, 9, true), FULL);
        x.again(0);
        due("it is gone", x.earliest(0), 5);
        due("the eighth anew", x.beam(0, 1, 7, true), 7);
        due("full again", x.beam(0, 1, 9, true), FULL);
        due("the eighth is the latest", x.earliest(0), 7);
    }

    private void promise34() {
        promise(34, "EARLIEST of a LAYER; NONE: it and lower ones have no BEAMS. UNKNOWN.");
        CharcoalFromAHearth x = layers(3);
        for (int layer = 0; layer < 3; layer++) {
            due("none has", x.earliest(layer), NONE);
        }
        x.beam(2, 1, 0, true);
        due("it and lower ones have none", x.earliest(1), NONE);
        due("it has, of the year 0", x.earliest(2), 0);
        x.beam(0, 1, 3000, true);
        due("a lower one has", x.earliest(1), 3000);
        refusedEach(beyond(0, 5), Samples::half, "layer", UNKNOWN, (y, no) -> y.earliest(no));
        refusedEach(new int[] {-1, 3, 5, LEAST, MOST}, () -> layers(3), "layer", UNKNOWN, (y, no) -> y.earliest(no));
        refusedEach(new int[] {0}, CharcoalFromAHearth::new, "no LAYERS", UNKNOWN, (y, no) -> y.earliest(no));
    }

    private void promise35() {
        promise(35, "TOO OLD by how many years. UNKNOWN.");
        CharcoalFromAHearth x = layers(1);
        due("no BEAMS", x.tooOld(0), UNKNOWN);
        x.beam(0, 1, 50, true);
        due("one", x.tooOld(0), 0);
        due("no second", x.tooOld(1), UNKNOWN);
        x.keep(0);
        x.beam(0, 1, 80, true);
        due("the first", x.tooOld(0), 30);
        due("the second", x.tooOld(1), 0);
        x.again(0);
        due("the first anew", x.tooOld(0), 0);
        due("no second any more", x.tooOld(1), UNKNOWN);
        refusedEach(beyond(0, 7), Samples::full, "beam of eight", UNKNOWN, (y, no) -> y.tooOld(no));
        refusedEach(beyond(0, 2), Samples::half, "beam of three", UNKNOWN, (y, no) -> y.tooOld(no));
        refusedEach(beyond(0, -1), CharcoalFromAHearth::new, "beam of none", UNKNOWN, (y, no) -> y.tooOld(no));
    }

    private void promise36() {
        promise(36, "They are kept: how many LAYERS. UNKNOWN.");
        CharcoalFromAHearth x = new CharcoalFromAHearth();
        due("none", x.keep(0), 0);
        for (int layers = 1; layers <= 6; layers++) {
            x.layer();
            due("LAYERS", x.keep(layers % 2), layers);
            due("they stay", x.all(1), layers);
        }
        x.count(0, 0, 5);
        x.keep(1);
        x.count(0, 0, 6);
        x.keep(1);
        x.count(0, 0, 7);
        due("the last kept is there", x.again(1), 6);
        due("it alone", x.counted(0, 0), 6);
        due("the other slot", x.again(0), 6);
        due("is as it was kept", x.counted(0, 0), 0);
        refusedEach(beyond(0, 1), Samples::half, "slot", UNKNOWN, (y, no) -> y.keep(no));
        refusedEach(beyond(0, 1), Samples::full, "slot", UNKNOWN, (y, no) -> y.keep(no));
    }

    private void promise37() {
        promise(37, "They are as they were kept: how many LAYERS.");
        CharcoalFromAHearth x = thick(5, 4);
        x.beam(1, 1, 100, true);
        x.count(0, 0, 1);
        x.keep(0);
        x.keep(1);
        withLayers(x, 4);
        for (int layer = 0; layer < 6; layer++) {
            counts(x, layer, 9, 9, 9, 9, 9, 9, 9);
            twigs(x, layer, 50 + layer);
            x.beam(layer, 1, 1000 + layer, true);
        }
        for (int slot = 0; slot <= 1; slot++) {
            due("two LAYERS", x.again(slot), 2);
            due("LAYERS", x.all(1), 2);
            due("TWIGS", x.all(3), 2);
            due("BEAMS", x.all(4), 1);
            due("COUNT 0", x.counted(0, 0), 1);
            due("COUNT 1", x.counted(0, 1), 0);
            due("UNSAID", x.counted(1, 6), 0);
            due("they THIN", x.thins(0), 1);
            due("EARLIEST", x.earliest(1), 100);
            due("EARLIEST below", x.earliest(0), NONE);
            due("a third one", x.layer(), 2);
            due("without COUNTS", x.counted(2, 6), 0);
            due("without TWIGS", x.thins(1), STATE);
            due("without BEAMS", x.earliest(2), 100);
            twigs(x, 2, 3);
            due("THINS on", x.longest(), 3);
            due("the second BEAM", x.beam(0, 1, 120, true), 120);
            due("the first by it", x.tooOld(0), 20);
        }
        Checks.tell(x, "S001");
        x.crumb(6);
        x.way(0, 1, 2, 3, 4);
        x.wood();
        x.again(0);
        due("THE TEXT is not kept", x.all(0), 4);
        due("nor THE ROW", x.all(2), 1);
        due("nor a WAY", x.going(0, 3), 4);
        due("nor THE WOOD", x.stands(0, 0), 1);
    }

    private void promise37OneSlotAndTheOther() {
        promise(37, "They are as they were kept: how many LAYERS.");
        CharcoalFromAHearth x = layers(3);
        x.keep(1);
        x.beam(1, 1, 100, true);
        x.beam(2, 1, 130, true);
        twigs(x, 0, 9);
        twigs(x, 1, 8);
        x.count(2, 5, 99);
        x.keep(0);
        x.again(1);
        due("no BEAMS", x.all(4), 0);
        due("no TWIGS", x.all(3), 0);
        due("no COUNTS", x.counted(2, 5), 0);
        x.beam(0, 1, 3000, true);
        x.beam(0, 1, 2000, true);
        twigs(x, 2, 7);
        x.count(2, 5, 1);
        due("three LAYERS", x.again(0), 3);
        due("two BEAMS", x.all(4), 2);
        due("none of LAYER 0", x.earliest(0), NONE);
        due("one of LAYER 1", x.earliest(1), 100);
        due("one of LAYER 2", x.earliest(2), 130);
        due("not TOO OLD", x.tooOld(0), 0);
        due("two TWIGS", x.all(3), 2);
        due("they THIN", x.thins(0), 1);
        due("none in LAYER 2", x.thins(1), STATE);
        due("COUNTS", x.counted(2, 5), 99);
        due("the other is as it was kept", x.again(1), 3);
        due("without BEAMS", x.earliest(2), NONE);
        due("without TWIGS", x.longest(), 0);
        due("without COUNTS", x.counted(2, 5), 0);
    }

    /** "none were kept" is read as: the slot was never kept; what was kept may be no LAYERS. */
    private void promise37KeptWithoutLayers() {
        promise(37, "They are as they were kept: how many LAYERS.");
        CharcoalFromAHearth x = new CharcoalFromAHearth();
        due("no LAYERS kept", x.keep(0), 0);
        withLayers(x, 2);
        twigs(x, 0, 5);
        x.beam(0, 1, 5, true);
        due("no LAYERS again", x.again(0), 0);
        due("LAYERS", x.all(1), 0);
        due("TWIGS", x.all(3), 0);
        due("BEAMS", x.all(4), 0);
        due("LAYER 0 is none", x.counted(0, 0), UNKNOWN);
        due("BEAM 0 is none", x.tooOld(0), UNKNOWN);
        due("none to count next", x.next(), NONE);
    }

    private void promise37NoneKept() {
        promise(37, "UNKNOWN; STATE: none were kept.");
        for (int slot = 0; slot <= 1; slot++) {
            int by = slot;
            Made other = () -> {
                CharcoalFromAHearth x = thick(5, 4);
                x.keep(1 - by);
                x.beam(1, 1, 100, true);
                return x;
            };
            refused(() -> thick(5, 4), "none at all", STATE, x -> x.again(by));
            refused(CharcoalFromAHearth::new, "of a new one", STATE, x -> x.again(by));
            refused(other, "in the other alone", STATE, x -> x.again(by));
            CharcoalFromAHearth x = other.make();
            due("none", x.again(by), STATE);
            due("kept", x.keep(by), 2);
            due("now some", x.again(by), 2);
            due("as they were kept", x.earliest(1), 100);
            due("the other as it was kept", x.again(1 - by), 2);
            due("that is", x.earliest(1), NONE);
            refusedEach(beyond(0, 1), other, "slot", UNKNOWN, (y, no) -> y.again(no));
        }
    }

    private void promise38() {
        promise(38, "0 bytes of THE TEXT, 1 LAYERS, 2 crumbs of THE ROW, 3 TWIGS, 4 BEAMS, 5 pieces that stand. OUTSIDE.");
        int[] none = {0, 0, 0, 0, 0, 0};
        int[] most = {64, 6, 48, 16, 8, 144};
        CharcoalFromAHearth x = new CharcoalFromAHearth();
        for (int what = 0; what <= 5; what++) {
            due("none of " + what, x.all(what), none[what]);
        }
        Checks.tell(x, "S009S019S029S039S109S119S129S139S209S219S229S239S309S319S329S339");
        x.wood();
        withLayers(x, 7);
        for (int crumb = 0; crumb < 49; crumb++) {
            x.crumb(crumb % 7);
        }
        for (int twig = 0; twig < 17; twig++) {
            x.twig(0, 1, 1);
        }
        for (int beam = 0; beam < 9; beam++) {
            x.beam(0, 1, 1, true);
        }
        for (int what = 0; what <= 5; what++) {
            due("the most of " + what, x.all(what), most[what]);
        }
        x.way(0, 9, 60, NONE, NONE);
        due("GATHERED ones stand", x.all(5), 144);
        x.wipe();
        due("without THE TEXT too", x.all(5), 144);
        x.sweep();
        due("THE TEXT", x.all(0), 0);
        due("THE ROW", x.all(2), 0);
        refusedEach(beyond(0, 5), Samples::half, "what", OUTSIDE, (y, no) -> y.all(no));
        refusedEach(beyond(0, 5), CharcoalFromAHearth::new, "what of a new one", OUTSIDE, (y, no) -> y.all(no));
    }
}
