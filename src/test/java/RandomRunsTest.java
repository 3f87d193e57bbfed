import java.util.ArrayList;
import java.util.Collections;
import java.util.List;
import java.util.Random;

/** Runs of 500 calls, mostly fit and sometimes not, each answer compared with the oracle's. Seeds are fixed. */
public final class RandomRunsTest {
    private static final int RUNS = 1500;
    private static final int CALLS = 500;

    private final Checks checks;
    private final Random random;
    private final CharcoalFromAHearth x = new CharcoalFromAHearth();
    private final Oracle oracle = new Oracle();
    private final int seed;
    private final int unfit;
    private int calls = 0;

    private RandomRunsTest(Checks checks, int seed) {
        this.checks = checks;
        this.seed = seed;
        this.random = new Random(seed);
        this.unfit = seed % 3 == 0 ? 12 : 60;
    }

    public static void main(String[] args) {
        Checks checks = new Checks();
        for (int seed = 1; seed <= RUNS && !checks.anyWrong(); seed++) {
            new RandomRunsTest(checks, seed).run();
        }
        checks.end();
    }

    private void run() {
        if (seed % 4 != 0) {
            newWood(true);
            newWays();
        }
        while (calls < CALLS) {
            anyCall(random.nextInt(46));
        }
    }

    private void due(String call, long got, long want) {
        calls++;
        if (calls <= 512) {
            checks.due("seed " + seed + ", call " + calls + ": " + call, got, want);
        }
    }

    /** A number from 0 to most, now and then one that is not. */
    private int some(int most) {
        return some(0, most);
    }

    private int some(int least, int most) {
        if (random.nextInt(unfit) == 0) {
            int[] others = {least - 1, most + 1, -9, Integer.MAX_VALUE, Integer.MIN_VALUE, random.nextInt()};
            return others[random.nextInt(others.length)];
        }
        return least + random.nextInt(most - least + 1);
    }

    private int someLayer() {
        int layers = oracle.all(1);
        return layers == 0 ? some(0) : some(layers - 1);
    }

    private int sortOrNone() {
        return random.nextInt(3) == 0 ? -9 : some(5);
    }

    private String someParts(boolean whole) {
        int sorts = 1 + random.nextInt(6);
        List<String> parts = new ArrayList<>();
        int many = random.nextInt(18);
        for (int part = 0; part < many; part++) {
            int sort = random.nextInt(sorts);
            int place = random.nextInt(4);
            switch (random.nextInt(7)) {
                case 0 -> parts.add("B" + sort + (1 + random.nextInt(9)));
                case 1 -> parts.add("A" + sort + random.nextInt(10));
                case 2 -> parts.add("U" + sort + random.nextInt(10));
                case 3 -> parts.add("D" + place + random.nextInt(10));
                default -> parts.add("S" + sort + place + (1 + random.nextInt(9)));
            }
        }
        Collections.shuffle(parts, random);
        StringBuilder text = new StringBuilder();
        List<String> keys = new ArrayList<>();
        for (String part : parts) {
            String key = part.substring(0, part.length() - 1);
            if (!whole || !keys.contains(key) && text.length() + part.length() <= 64) {
                keys.add(key);
                text.append(part);
            }
        }
        if (!whole && text.length() > 0) {
            int at = random.nextInt(text.length());
            text.setCharAt(at, "SBAUD0123456789:/sX\u00b1".charAt(random.nextInt(20)));
            text.setLength(Math.min(text.length(), 1 + random.nextInt(64)));
        }
        return text.toString();
    }

    private void newWood(boolean whole) {
        due("wipe()", x.wipe(), oracle.wipe());
        String text = someParts(whole);
        for (int at = 0; at < text.length();) {
            int n = Math.min(1 + random.nextInt(8), text.length() - at);
            long v = Checks.bytes(text.substring(at, at + n));
            if (n < 8) {
                v |= random.nextLong() << (8 * n);
            }
            write(n, v);
            at += n;
        }
        fault();
        wood();
    }

    private void write(int n, long v) {
        due("write(" + n + ", " + v + ")", x.write(n, v), oracle.write(n, v));
    }

    private void fault() {
        due("fault()", x.fault(), oracle.fault());
    }

    private void wood() {
        due("wood()", x.wood(), oracle.wood());
        due("all(5)", x.all(5), oracle.all(5));
    }

    private void newWays() {
        int most = new int[] {3, 8, 15, 60}[random.nextInt(4)];
        for (int way = 0; way < 4; way++) {
            way(way, some(9), some(most));
        }
    }

    private void way(int way, int far, int much) {
        int liked = sortOrNone();
        int never = sortOrNone();
        due("way(" + way + ", " + far + ", " + much + ", " + liked + ", " + never + ")",
            x.way(way, far, much, liked, never), oracle.way(way, far, much, liked, never));
    }

    private void anyCall(int call) {
        if (call < 15) {
            woodsAndFires(call);
        } else if (call < 30) {
            layersAndRow(call);
        } else {
            oddsAndTheRest(call);
        }
    }

    private void woodsAndFires(int call) {
        int way = some(3);
        int sort = some(5);
        int place = some(3);
        int what = some(2);
        switch (call) {
            case 0 -> write(some(1, 8), random.nextLong());
            case 1 -> fault();
            case 2 -> wood();
            case 3 -> due("stands(" + sort + ", " + place + ")", x.stands(sort, place), oracle.stands(sort, place));
            case 4 -> due("sorted(" + sort + ", " + what + ")", x.sorted(sort, what), oracle.sorted(sort, what));
            case 5 -> due("miles(" + place + ")", x.miles(place), oracle.miles(place));
            case 6 -> way(way, some(9), some(random.nextBoolean() ? 8 : 60));
            case 7 -> {
                int which = some(3);
                due("going(" + way + ", " + which + ")", x.going(way, which), oracle.going(way, which));
            }
            case 8, 9 -> due("gathered(" + way + ", " + sort + ", " + place + ")",
                x.gathered(way, sort, place), oracle.gathered(way, sort, place));
            case 10, 11 -> due("fire(" + way + ", " + sort + ", " + what + ")",
                x.fire(way, sort, what), oracle.fire(way, sort, what));
            case 12 -> due("unsaid(" + way + ")", x.unsaid(way), oracle.unsaid(way));
            case 13 -> due("walk(" + way + ")", x.walk(way), oracle.walk(way));
            default -> {
                if (random.nextInt(3) == 0) {
                    newWood(random.nextBoolean());
                }
            }
        }
    }

    private void layersAndRow(int call) {
        int layer = someLayer();
        int rule = some(2);
        int n = some(1, random.nextBoolean() ? 6 : 48);
        boolean upper = random.nextBoolean();
        switch (call) {
            case 15 -> {
                if (random.nextInt(4) == 0) {
                    due("layer()", x.layer(), oracle.layer());
                }
            }
            case 16, 17 -> {
                int sort = some(6);
                int v = some(random.nextInt(4) == 0 ? 99 : 2);
                due("count(" + layer + ", " + sort + ", " + v + ")",
                    x.count(layer, sort, v), oracle.count(layer, sort, v));
            }
            case 18 -> {
                int sort = some(6);
                due("counted(" + layer + ", " + sort + ")", x.counted(layer, sort), oracle.counted(layer, sort));
            }
            case 19, 20, 21, 22 -> {
                int sort = random.nextInt(3) == 0 ? some(6) : some(2);
                due("crumb(" + sort + ")", x.crumb(sort), oracle.crumb(sort));
            }
            case 23 -> {
                if (random.nextInt(6) == 0) {
                    due("sweep()", x.sweep(), oracle.sweep());
                }
            }
            case 24 -> {
                if (random.nextInt(3) == 0) {
                    due("pour(" + layer + ")", x.pour(layer), oracle.pour(layer));
                }
            }
            case 25, 26 -> due("stop(" + rule + ", " + n + ")", x.stop(rule, n), oracle.stop(rule, n));
            case 27 -> due("missed(" + rule + ", " + n + ")", x.missed(rule, n), oracle.missed(rule, n));
            default -> {
                int sort = some(5);
                due("share(" + layer + ", " + sort + ", " + upper + ")",
                    x.share(layer, sort, upper), oracle.share(layer, sort, upper));
            }
        }
    }

    private void oddsAndTheRest(int call) {
        int layer = someLayer();
        int way = some(3);
        boolean upper = random.nextBoolean();
        switch (call) {
            case 30 -> due("chance(" + layer + ", " + way + ", " + upper + ")",
                x.chance(layer, way, upper), oracle.chance(layer, way, upper));
            case 31 -> due("odds(" + layer + ", " + way + ", " + upper + ")",
                x.odds(layer, way, upper), oracle.odds(layer, way, upper));
            case 32 -> due("likeliest(" + layer + ")", x.likeliest(layer), oracle.likeliest(layer));
            case 33 -> due("far(" + layer + ", " + upper + ")", x.far(layer, upper), oracle.far(layer, upper));
            case 34, 35 -> {
                int sort = some(5);
                due("lacks(" + layer + ", " + way + ", " + sort + ")",
                    x.lacks(layer, way, sort), oracle.lacks(layer, way, sort));
            }
            case 36 -> due("next()", x.next(), oracle.next());
            case 37 -> {
                int a = some(1, 99);
                int b = some(1, 99);
                due("twig(" + layer + ", " + a + ", " + b + ")", x.twig(layer, a, b), oracle.twig(layer, a, b));
            }
            case 38 -> due("thins(" + layer + ")", x.thins(layer), oracle.thins(layer));
            case 39 -> due("longest()", x.longest(), oracle.longest());
            case 40 -> {
                int rings = some(1, 300);
                int date = some(3000);
                due("beam(" + layer + ", " + rings + ", " + date + ", " + upper + ")",
                    x.beam(layer, rings, date, upper), oracle.beam(layer, rings, date, upper));
            }
            case 41 -> due("earliest(" + layer + ")", x.earliest(layer), oracle.earliest(layer));
            case 42 -> {
                int beam = oracle.all(4) == 0 ? some(0) : some(oracle.all(4) - 1);
                due("tooOld(" + beam + ")", x.tooOld(beam), oracle.tooOld(beam));
            }
            case 43 -> {
                int slot = some(1);
                if (random.nextInt(4) == 0) {
                    due("keep(" + slot + ")", x.keep(slot), oracle.keep(slot));
                }
            }
            case 44 -> {
                int slot = some(1);
                if (random.nextInt(3) == 0) {
                    due("again(" + slot + ")", x.again(slot), oracle.again(slot));
                }
            }
            default -> {
                int what = some(5);
                due("all(" + what + ")", x.all(what), oracle.all(what));
            }
        }
    }
}
