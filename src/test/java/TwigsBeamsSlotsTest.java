/** Promises 30 to 38: twigs, beams, slots, all. */
public final class TwigsBeamsSlotsTest {
    private static final int UNKNOWN = -1, OUTSIDE = -2, STATE = -3, FULL = -4, NONE = -9;
    private static final int LEAST = Integer.MIN_VALUE, MOST = Integer.MAX_VALUE;
    private static final Checks CHECKS = new Checks();

    public static void main(String[] args) {
        promise30Twig();
        promise30TwigsFull();
        promise31Thins();
        promise32Longest();
        promise33Beam();
        promise33BeamsFull();
        promise34Earliest();
        promise35TooOld();
        promise36Keep();
        promise37Again();
        promise37AgainLeavesTheRest();
        promise38All();
        CHECKS.end();
    }

    private static void due(String call, long got, long want) {
        CHECKS.due(call, got, want);
    }

    private static CharcoalFromAHearth withLayers(int layers) {
        CharcoalFromAHearth x = new CharcoalFromAHearth();
        for (int layer = 0; layer < layers; layer++) {
            x.layer();
        }
        return x;
    }

    /** A TWIG as thick as told, from 2 on: (1 and b b) by b. */
    private static void twigs(CharcoalFromAHearth x, int layer, int... thick) {
        for (int each : thick) {
            due("30 twig " + each, x.twig(layer, 1, each), each);
        }
    }

    private static void promise30Twig() {
        CharcoalFromAHearth x = withLayers(2);
        due("30 even", x.twig(0, 3, 9), 10);
        due("30 cut", x.twig(0, 5, 7), 10);
        due("30 a and b are not alike", x.twig(1, 7, 5), 14);
        due("30 the least", x.twig(1, 1, 1), 2);
        due("30 across the most", x.twig(1, 1, 99), 99);
        due("30 along the most", x.twig(1, 99, 1), 9802);
        due("30 both the most", x.twig(1, 99, 99), 198);
        for (int no : new int[] {-1, 2, LEAST, MOST}) {
            due("30 layer " + no, x.twig(no, 1, 1), UNKNOWN);
            due("30 UNKNOWN first, layer " + no, x.twig(no, 0, 0), UNKNOWN);
        }
        for (int no : new int[] {0, -1, 100, LEAST, MOST}) {
            due("30 a " + no, x.twig(0, no, 1), OUTSIDE);
            due("30 b " + no, x.twig(0, 1, no), OUTSIDE);
        }
        due("30 seven twigs", x.all(3), 7);
    }

    private static void promise30TwigsFull() {
        CharcoalFromAHearth x = withLayers(2);
        for (int twig = 0; twig < 16; twig++) {
            due("30 up to 16 in all", x.twig(twig % 2, 1, 20 - twig % 2), 20 - twig % 2);
        }
        due("30 full", x.twig(0, 1, 1), FULL);
        due("30 full in each", x.twig(1, 99, 1), FULL);
        due("30 UNKNOWN ahead of FULL", x.twig(2, 1, 1), UNKNOWN);
        due("30 OUTSIDE ahead of FULL", x.twig(0, 1, 0), OUTSIDE);
        due("30 no more", x.all(3), 16);
        due("30 as thick as before", x.thins(0), 1);
    }

    private static void promise31Thins() {
        CharcoalFromAHearth x = withLayers(6);
        due("31 none has twigs", x.thins(0), STATE);
        twigs(x, 0, 10, 10);
        due("31 the next has none", x.thins(0), STATE);
        twigs(x, 1, 15);
        due("31 thicker, though less in all", x.thins(0), 0);
        twigs(x, 2, 10, 10, 10);
        due("31 thinner, though more in all", x.thins(1), 1);
        twigs(x, 3, 10);
        due("31 alike", x.thins(2), 0);
        twigs(x, 4, 9, 10);
        due("31 by half", x.thins(3), 1);
        twigs(x, 5, 9, 9, 10);
        due("31 by a sixth", x.thins(4), 1);
        due("31 no next one", x.thins(5), STATE);
        for (int no : new int[] {-1, 6, LEAST, MOST}) {
            due("31 layer " + no, x.thins(no), UNKNOWN);
        }
        x = withLayers(2);
        due("31 layer not yet there", x.thins(2), UNKNOWN);
        twigs(x, 1, 5);
        due("31 the lower has none", x.thins(0), STATE);
        due("31 none behind the last", x.thins(1), STATE);
        x.layer();
        due("31 the next is empty", x.thins(1), STATE);
        twigs(x, 2, 5, 4);
        due("31 the next is thinner", x.thins(1), 1);
        twigs(x, 2, 6);
        due("31 no more so", x.thins(1), 0);
    }

    private static void promise32Longest() {
        CharcoalFromAHearth x = withLayers(6);
        due("32 none", x.longest(), 0);
        twigs(x, 3, 8);
        due("32 one", x.longest(), 1);
        twigs(x, 5, 6);
        due("32 a gap", x.longest(), 1);
        twigs(x, 4, 7);
        due("32 three", x.longest(), 3);
        twigs(x, 0, 9);
        due("32 three still", x.longest(), 3);
        twigs(x, 1, 9);
        due("32 alike does not thin", x.longest(), 3);
        twigs(x, 4, 9);
        due("32 alike in the midst", x.longest(), 2);
        twigs(x, 2, 5);
        due("32 two twice", x.longest(), 2);
        twigs(x, 1, 8);
        due("32 the lowest three", x.longest(), 3);
        x = withLayers(6);
        for (int layer = 0; layer < 6; layer++) {
            twigs(x, layer, 20 - layer);
        }
        due("32 six", x.longest(), 6);
        twigs(x, 2, 99);
        due("32 split", x.longest(), 4);
        x = withLayers(3);
        twigs(x, 0, 3);
        twigs(x, 1, 4);
        twigs(x, 2, 5);
        due("32 all thicken", x.longest(), 1);
        due("32 no layers", withLayers(0).longest(), 0);
    }

    private static void promise33Beam() {
        CharcoalFromAHearth x = withLayers(2);
        due("33 of the midst", x.beam(0, 40, 1000, true), 1039);
        due("33 of the outermost", x.beam(0, 40, 1000, false), 1000);
        due("33 one ring", x.beam(1, 1, 0, true), 0);
        due("33 most of both", x.beam(1, 300, 3000, true), 3299);
        due("33 most of both, outermost", x.beam(1, 300, 3000, false), 3000);
        for (int no : new int[] {-1, 2, LEAST, MOST}) {
            due("33 layer " + no, x.beam(no, 1, 1, true), UNKNOWN);
            due("33 UNKNOWN first, layer " + no, x.beam(no, 0, -1, true), UNKNOWN);
        }
        for (int no : new int[] {0, -1, 301, LEAST, MOST}) {
            due("33 rings " + no, x.beam(0, no, 1, true), OUTSIDE);
            due("33 rings, outermost " + no, x.beam(0, no, 1, false), OUTSIDE);
        }
        for (int no : new int[] {-1, 3001, LEAST, MOST}) {
            due("33 date " + no, x.beam(0, 1, no, true), OUTSIDE);
            due("33 date, outermost " + no, x.beam(0, 1, no, false), OUTSIDE);
        }
        due("33 five beams", x.all(4), 5);
    }

    private static void promise33BeamsFull() {
        CharcoalFromAHearth x = withLayers(2);
        for (int beam = 0; beam < 8; beam++) {
            due("33 up to 8 in all", x.beam(beam % 2, 2, 10 * beam, true), 10 * beam + 1);
        }
        due("33 full", x.beam(0, 1, 500, true), FULL);
        due("33 full in each", x.beam(1, 1, 500, false), FULL);
        due("33 UNKNOWN ahead of FULL", x.beam(2, 1, 500, true), UNKNOWN);
        due("33 OUTSIDE ahead of FULL", x.beam(0, 0, 500, true), OUTSIDE);
        due("33 no more", x.all(4), 8);
        due("33 no later", x.earliest(1), 71);
        due("33 each has its number", x.tooOld(6), 0);
        due("33 each its layer", x.tooOld(5), 20);
    }

    private static void promise34Earliest() {
        CharcoalFromAHearth x = withLayers(4);
        due("34 no beams", x.earliest(3), NONE);
        x.beam(1, 10, 90, true);
        due("34 none lower", x.earliest(0), NONE);
        due("34 its own", x.earliest(1), 99);
        due("34 of a lower one", x.earliest(2), 99);
        x.beam(2, 10, 90, false);
        due("34 a lower one is later", x.earliest(2), 99);
        due("34 and above", x.earliest(3), 99);
        x.beam(1, 1, 95, true);
        due("34 the latest of its own", x.earliest(1), 99);
        x.beam(2, 1, 100, true);
        due("34 an upper one is later", x.earliest(2), 100);
        due("34 not for the lower", x.earliest(1), 99);
        x.beam(0, 300, 3000, true);
        due("34 the lowest is the latest", x.earliest(3), 3299);
        x = withLayers(1);
        x.beam(0, 1, 0, false);
        due("34 the year 0", x.earliest(0), 0);
        for (int no : new int[] {-1, 1, 6, LEAST, MOST}) {
            due("34 layer " + no, x.earliest(no), UNKNOWN);
        }
    }

    private static void promise35TooOld() {
        CharcoalFromAHearth x = withLayers(3);
        due("35 no beam", x.tooOld(0), UNKNOWN);
        x.beam(1, 10, 90, true);
        due("35 alone", x.tooOld(0), 0);
        x.beam(2, 10, 60, false);
        due("35 than a lower one", x.tooOld(1), 39);
        x.beam(2, 1, 150, true);
        due("35 than one of its own", x.tooOld(1), 90);
        due("35 not than an upper one", x.tooOld(0), 0);
        due("35 the latest", x.tooOld(2), 0);
        x.beam(0, 1, 200, true);
        due("35 the lowest is the latest", x.tooOld(0), 101);
        due("35 for all above it", x.tooOld(2), 50);
        for (int no : new int[] {-1, 4, 8, NONE, LEAST, MOST}) {
            due("35 beam " + no, x.tooOld(no), UNKNOWN);
        }
    }

    private static void promise36Keep() {
        CharcoalFromAHearth x = withLayers(2);
        due("36 two layers", x.keep(0), 2);
        x.layer();
        due("36 three layers", x.keep(1), 3);
        due("36 three in the other too", x.keep(0), 3);
        for (int no : new int[] {-1, 2, NONE, LEAST, MOST}) {
            due("36 slot " + no, x.keep(no), UNKNOWN);
            due("37 slot " + no, x.again(no), UNKNOWN);
        }
        due("36 nothing else happens", x.all(1), 3);
    }

    private static void promise37Again() {
        CharcoalFromAHearth x = withLayers(2);
        due("37 none kept", x.again(0), STATE);
        x.count(0, 1, 11);
        x.count(1, 6, 12);
        twigs(x, 0, 9);
        x.beam(1, 1, 100, true);
        x.keep(0);
        due("37 none kept in the other", x.again(1), STATE);
        due("37 the refused one changed nothing", x.counted(0, 1), 11);
        x.count(0, 1, 21);
        x.count(1, 6, 22);
        x.count(1, 0, 23);
        twigs(x, 0, 5);
        twigs(x, 1, 7);
        x.beam(0, 1, 200, true);
        x.layer();
        x.count(2, 2, 24);
        twigs(x, 2, 6);
        x.beam(2, 1, 300, true);
        x.keep(1);
        due("37 back to two", x.again(0), 2);
        due("37 count", x.counted(0, 1), 11);
        due("37 unsaid", x.counted(1, 6), 12);
        due("37 none there", x.counted(1, 0), 0);
        due("37 no third", x.counted(2, 2), UNKNOWN);
        due("37 one twig", x.all(3), 1);
        due("37 in one layer", x.thins(0), STATE);
        due("37 one beam", x.all(4), 1);
        due("37 of its date", x.earliest(1), 100);
        due("37 none in the lowest", x.earliest(0), NONE);
        due("37 a third anew", x.layer(), 2);
        due("37 without counts", x.counted(2, 2), 0);
        due("37 without twigs", x.thins(1), STATE);
        due("37 without beams", x.earliest(2), 100);
        twigs(x, 1, 8);
        due("37 it thins from the kept twig", x.thins(0), 1);
        x.beam(0, 1, 150, true);
        due("37 the next beam", x.tooOld(0), 50);
        x.count(0, 1, 31);
        due("37 what is kept stays", x.again(0), 2);
        due("37 count again", x.counted(0, 1), 11);
        due("37 twig again", x.all(3), 1);
        due("37 beam again", x.tooOld(0), 0);
        due("37 the other slot", x.again(1), 3);
        due("37 its count", x.counted(2, 2), 24);
        due("37 its twigs", x.all(3), 4);
        due("37 it thins by the mean of 9 and 5", x.thins(0), 0);
        due("37 and thins", x.thins(1), 1);
        due("37 its beams", x.all(4), 3);
        due("37 its earliest", x.earliest(2), 300);
        due("37 its too old", x.tooOld(0), 100);
    }

    private static void promise37AgainLeavesTheRest() {
        CharcoalFromAHearth x = withLayers(1);
        x.keep(0);
        Checks.tell(x, "S001");
        x.wood();
        x.wipe();
        Checks.tell(x, "B03");
        x.crumb(5);
        x.way(0, 7, 8, 1, 2);
        x.again(0);
        due("37 the text", x.all(0), 3);
        due("37 the wood", x.stands(0, 0), 1);
        due("37 the row", x.all(2), 1);
        due("37 the way", x.going(0, 0), 7);
        due("37 the fire of it", x.gathered(0, 0, 0), 1);
        due("37 the layer", x.all(1), 1);
    }

    private static void promise38All() {
        CharcoalFromAHearth x = Checks.withWood("S001S539S124B01");
        x.write(1, 'S');
        for (int layer = 0; layer < 2; layer++) {
            x.layer();
        }
        for (int crumb = 0; crumb < 3; crumb++) {
            x.crumb(6);
        }
        for (int twig = 0; twig < 4; twig++) {
            x.twig(twig % 2, 1, 1);
        }
        for (int beam = 0; beam < 5; beam++) {
            x.beam(1, 1, 1, false);
        }
        int[] want = {16, 2, 3, 4, 5, 14};
        for (int what = 0; what < 6; what++) {
            due("38 all " + what, x.all(what), want[what]);
        }
        for (int no : new int[] {-1, 6, NONE, LEAST, MOST}) {
            due("38 what " + no, x.all(no), OUTSIDE);
        }
    }
}
