import java.util.ArrayList;
import java.util.List;

/** Objects with some of everything, and all that an object can be asked, made and asked in fewer than 512 calls. */
final class Samples {
    private Samples() {
    }

    /** An object with some of everything: six LAYERS alone are as many as can be. */
    static CharcoalFromAHearth half() {
        CharcoalFromAHearth x = Checks.withWood("S003S115S222S334B03A11U25D04");
        x.write(4, Checks.bytes("S04x"));
        x.way(0, 9, 4, 2, 0);
        x.way(1, 4, 9, -9, -9);
        x.way(2, 3, 5, 1, 3);
        for (int layer = 0; layer < 6; layer++) {
            x.layer();
            x.count(layer, layer % 4, 1 + layer);
            x.count(layer, 6, 30 + layer);
        }
        x.count(4, 0, 0);
        x.count(5, 1, 13);
        x.count(3, 5, 1);
        for (int crumb : new int[] {3, 6, 3, 1, 1, 1, 6, 0, 2, 2}) {
            x.crumb(crumb);
        }
        x.twig(0, 9, 9);
        x.twig(1, 8, 8);
        x.twig(3, 1, 50);
        x.beam(1, 50, 100, true);
        x.beam(4, 50, 80, false);
        x.keep(0);
        x.count(0, 3, 9);
        x.twig(4, 1, 40);
        x.beam(0, 1, 60, true);
        return x;
    }

    /** An object of which the text, the layers, the row, the twigs and the beams are full. */
    static CharcoalFromAHearth full() {
        CharcoalFromAHearth x = half();
        x.wipe();
        Checks.tell(x, "S001S011S021S031S101S111S121S131S201S211S221S231S301S311S321S331");
        for (int crumb = 10; crumb < 48; crumb++) {
            x.crumb(4);
        }
        for (int twig = 4; twig < 16; twig++) {
            x.twig(2, 5, 5);
        }
        for (int beam = 3; beam < 8; beam++) {
            x.beam(3, 5, 90, false);
        }
        return x;
    }

    /** Of an object that is not used any more: slots, wood, text and row are asked by calls that change it. */
    static List<Long> answers(CharcoalFromAHearth x) {
        List<Long> answers = new ArrayList<>();
        for (int what = 0; what < 6; what++) {
            answers.add((long) x.all(what));
        }
        answers.add((long) x.fault());
        standing(x, answers);
        ways(x, answers);
        row(x, answers);
        answers.add((long) x.next());
        finds(x, answers);
        answers.add((long) x.again(1));
        answers.add((long) x.again(0));
        finds(x, answers);
        answers.add((long) x.wood());
        standing(x, answers);
        answers.add((long) x.wipe());
        answers.add((long) x.sweep());
        return answers;
    }

    private static void standing(CharcoalFromAHearth x, List<Long> answers) {
        for (int sort = 0; sort < 6; sort++) {
            for (int place = 0; place < 4; place++) {
                answers.add((long) x.stands(sort, place));
            }
            answers.add((long) x.sorted(sort, sort % 3));
        }
        for (int place = 0; place < 4; place++) {
            answers.add((long) x.miles(place));
        }
    }

    private static void ways(CharcoalFromAHearth x, List<Long> answers) {
        for (int way = 0; way < 4; way++) {
            for (int what = 0; what < 4; what++) {
                answers.add((long) x.going(way, what));
            }
            answers.add((long) x.unsaid(way));
            answers.add((long) x.walk(way));
            for (int sort = 0; sort < 4; sort++) {
                answers.add((long) x.gathered(way, sort, sort));
                answers.add((long) x.fire(way, sort, way % 3));
            }
        }
    }

    private static void row(CharcoalFromAHearth x, List<Long> answers) {
        for (int rule = 0; rule < 3; rule++) {
            for (int n : new int[] {1, 2, 3, 20, 35}) {
                answers.add((long) x.missed(rule, n));
                answers.add((long) x.stop(rule, n));
            }
        }
    }

    private static void finds(CharcoalFromAHearth x, List<Long> answers) {
        for (int layer = 0; layer < 6; layer++) {
            for (int sort = 0; sort <= 6; sort++) {
                answers.add((long) x.counted(layer, sort));
            }
            answers.add((long) x.thins(layer));
            answers.add((long) x.earliest(layer));
            answers.add(x.odds(layer, 1, true));
        }
        for (int beam = 0; beam < 8; beam++) {
            answers.add((long) x.tooOld(beam));
        }
        answers.add((long) x.longest());
        answers.add((long) x.all(3));
    }
}
