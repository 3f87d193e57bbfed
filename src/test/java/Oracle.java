import java.math.BigInteger;
import java.util.ArrayList;
import java.util.Comparator;
import java.util.HashMap;
import java.util.HashSet;
import java.util.List;
import java.util.Map;
import java.util.Set;

/**
 * The document again, told as plainly as the Java library lets it: pieces are gathered one by one,
 * fractions are exact, parts of a text are looked up in the list of all parts that there are.
 * RandomRunsTest compares the class with it.
 */
final class Oracle {
    static final int UNKNOWN = -1, OUTSIDE = -2, STATE = -3, FULL = -4, NONE = -9;
    private static final List<String> ALL_PARTS = allParts();

    private String text = "";
    private Map<String, Integer> told = new HashMap<>();
    private final int[][] ways = {{0, 10, NONE, NONE}, {0, 10, NONE, NONE}, {0, 10, NONE, NONE}, {0, 10, NONE, NONE}};
    private final List<Integer> row = new ArrayList<>();
    private Finds finds = new Finds();
    private final Finds[] slots = new Finds[2];

    private static final class Finds {
        final List<int[]> layers = new ArrayList<>();
        final List<int[]> twigs = new ArrayList<>();
        final List<int[]> beams = new ArrayList<>();

        Finds copy() {
            Finds copy = new Finds();
            layers.forEach(counts -> copy.layers.add(counts.clone()));
            copy.twigs.addAll(twigs);
            copy.beams.addAll(beams);
            return copy;
        }
    }

    record Fraction(BigInteger up, BigInteger down) {
        static final Fraction ZERO = of(0, 1), ONE = of(1, 1);

        static Fraction of(long up, long down) {
            return of(BigInteger.valueOf(up), BigInteger.valueOf(down));
        }

        static Fraction of(BigInteger up, BigInteger down) {
            BigInteger common = up.gcd(down);
            return new Fraction(up.divide(common), down.divide(common));
        }

        Fraction plus(Fraction o) {
            return of(up.multiply(o.down).add(o.up.multiply(down)), down.multiply(o.down));
        }

        Fraction times(Fraction o) {
            return of(up.multiply(o.up), down.multiply(o.down));
        }

        Fraction by(Fraction o) {
            return of(up.multiply(o.down), down.multiply(o.up));
        }

        int compare(Fraction o) {
            return up.multiply(o.down).compareTo(o.up.multiply(down));
        }

        boolean isZero() {
            return up.signum() == 0;
        }

        long cut() {
            return up.divide(down).longValueExact();
        }

        long term(boolean upper) {
            return (upper ? up : down).longValueExact();
        }
    }

    private static List<String> allParts() {
        List<String> parts = new ArrayList<>();
        for (int sort = 0; sort < 6; sort++) {
            for (int number = 0; number <= 9; number++) {
                parts.add("A" + sort + number);
                parts.add("U" + sort + number);
                if (number > 0) {
                    parts.add("B" + sort + number);
                    for (int place = 0; place < 4; place++) {
                        parts.add("S" + sort + place + number);
                    }
                }
                if (sort < 4) {
                    parts.add("D" + sort + number);
                }
            }
        }
        return parts;
    }

    private static String keyOf(String part) {
        return part.substring(0, part.length() - 1);
    }

    /** Fills in what is told; answers FAULT. */
    private int read(Map<String, Integer> into) {
        Set<String> used = new HashSet<>();
        int at = 0;
        while (at < text.length()) {
            String whole = null;
            for (String part : ALL_PARTS) {
                if (!used.contains(keyOf(part)) && text.startsWith(part, at)) {
                    whole = part;
                }
            }
            if (whole == null) {
                return faultFrom(at, used);
            }
            used.add(keyOf(whole));
            into.put(keyOf(whole), whole.charAt(whole.length() - 1) - '0');
            at += whole.length();
        }
        return NONE;
    }

    private int faultFrom(int at, Set<String> used) {
        for (int end = at + 1; end <= text.length(); end++) {
            String begun = text.substring(at, end);
            if (ALL_PARTS.stream().noneMatch(part -> !used.contains(keyOf(part)) && part.startsWith(begun))) {
                return end - 1;
            }
        }
        return text.length();
    }

    private static boolean within(int v, int least, int most) {
        return v >= least && v <= most;
    }

    private boolean isLayer(int layer) {
        return within(layer, 0, finds.layers.size() - 1);
    }

    int write(int n, long v) {
        if (!within(n, 1, 8)) {
            return OUTSIDE;
        }
        if (text.length() + n > 64) {
            return FULL;
        }
        String hex = String.format("%016x", v).substring(16 - 2 * n);
        for (int i = 0; i < n; i++) {
            text += (char) Integer.parseInt(hex.substring(2 * i, 2 * i + 2), 16);
        }
        return text.length();
    }

    int wipe() {
        int was = text.length();
        text = "";
        return was;
    }

    int fault() {
        return read(new HashMap<>());
    }

    int wood() {
        Map<String, Integer> read = new HashMap<>();
        if (read(read) != NONE) {
            return STATE;
        }
        told = read;
        return told.size();
    }

    private int number(String kind, int sort, int otherwise) {
        return told.getOrDefault(kind + sort, otherwise);
    }

    private int pieces(int sort, int place) {
        return told.getOrDefault("S" + sort + place, 0);
    }

    int stands(int sort, int place) {
        return within(sort, 0, 5) && within(place, 0, 3) ? pieces(sort, place) : UNKNOWN;
    }

    int sorted(int sort, int what) {
        if (!within(sort, 0, 5)) {
            return UNKNOWN;
        }
        if (!within(what, 0, 2)) {
            return OUTSIDE;
        }
        return what == 0 ? number("B", sort, 2) : number(what == 1 ? "A" : "U", sort, 0);
    }

    int miles(int place) {
        return within(place, 0, 3) ? number("D", place, place) : UNKNOWN;
    }

    int way(int way, int far, int much, int liked, int never) {
        if (!within(way, 0, 3)) {
            return UNKNOWN;
        }
        boolean sorts = (liked == NONE || within(liked, 0, 5)) && (never == NONE || within(never, 0, 5));
        if (!within(far, 0, 9) || !within(much, 0, 60) || !sorts) {
            return OUTSIDE;
        }
        int was = ways[way][0];
        ways[way] = new int[] {far, much, liked, never};
        return was;
    }

    int going(int way, int what) {
        if (!within(way, 0, 3)) {
            return UNKNOWN;
        }
        return within(what, 0, 3) ? ways[way][what] : OUTSIDE;
    }

    private int[][] gather(int way) {
        int[][] taken = new int[6][4];
        for (int had = 0; had < ways[way][1]; had++) {
            int[] piece = nextPiece(way, taken);
            if (piece == null) {
                break;
            }
            taken[piece[0]][piece[1]]++;
        }
        return taken;
    }

    private int[] nextPiece(int way, int[][] taken) {
        List<int[]> there = new ArrayList<>();
        for (int sort = 0; sort < 6; sort++) {
            for (int place = 0; place < 4; place++) {
                int left = pieces(sort, place) - taken[sort][place];
                if (left > 0 && miles(place) <= ways[way][0] && sort != ways[way][3]) {
                    there.add(new int[] {sort, place, left});
                }
            }
        }
        return there.stream().min(Comparator
            .comparingInt((int[] p) -> p[0] == ways[way][2] ? 0 : 1)
            .thenComparingInt(p -> miles(p[1]))
            .thenComparingInt(p -> p[1])
            .thenComparingInt(p -> -p[2])
            .thenComparingInt(p -> p[0])).orElse(null);
    }

    private static int tenths(int many, int tenths) {
        return (int) Math.ceil(many * tenths / 10.0);
    }

    /** Pieces, ash, crumbs, SAID, UNSAID of a SORT. */
    private int[] burnt(int[][] taken, int sort) {
        int pieces = 0;
        for (int at : taken[sort]) {
            pieces += at;
        }
        int ash = tenths(pieces, number("A", sort, 0));
        int crumbs = (pieces - ash) * number("B", sort, 2);
        int unsaid = tenths(crumbs, number("U", sort, 0));
        return new int[] {pieces, ash, crumbs, crumbs - unsaid, unsaid};
    }

    int gathered(int way, int sort, int place) {
        boolean known = within(way, 0, 3) && within(sort, 0, 5) && within(place, 0, 3);
        return known ? gather(way)[sort][place] : UNKNOWN;
    }

    int fire(int way, int sort, int what) {
        if (!within(way, 0, 3) || !within(sort, 0, 5)) {
            return UNKNOWN;
        }
        return within(what, 0, 2) ? burnt(gather(way), sort)[what + 1] : OUTSIDE;
    }

    private int ofAll(int way, int what) {
        int[][] taken = gather(way);
        int all = 0;
        for (int sort = 0; sort < 6; sort++) {
            all += burnt(taken, sort)[what];
        }
        return all;
    }

    int unsaid(int way) {
        return within(way, 0, 3) ? ofAll(way, 4) : UNKNOWN;
    }

    int walk(int way) {
        if (!within(way, 0, 3)) {
            return UNKNOWN;
        }
        int[][] taken = gather(way);
        Set<Integer> places = new HashSet<>();
        for (int sort = 0; sort < 6; sort++) {
            for (int place = 0; place < 4; place++) {
                if (taken[sort][place] > 0) {
                    places.add(place);
                }
            }
        }
        return places.stream().mapToInt(place -> 2 * miles(place)).sum();
    }

    int layer() {
        if (finds.layers.size() == 6) {
            return FULL;
        }
        finds.layers.add(new int[7]);
        return finds.layers.size() - 1;
    }

    int count(int layer, int sort, int v) {
        if (!isLayer(layer) || !within(sort, 0, 6)) {
            return UNKNOWN;
        }
        if (!within(v, 0, 99)) {
            return OUTSIDE;
        }
        int was = finds.layers.get(layer)[sort];
        finds.layers.get(layer)[sort] = v;
        return was;
    }

    int counted(int layer, int sort) {
        return isLayer(layer) && within(sort, 0, 6) ? finds.layers.get(layer)[sort] : UNKNOWN;
    }

    int crumb(int sort) {
        if (!within(sort, 0, 6)) {
            return UNKNOWN;
        }
        if (row.size() == 48) {
            return FULL;
        }
        row.add(sort);
        return row.size();
    }

    int sweep() {
        int was = row.size();
        row.clear();
        return was;
    }

    int pour(int layer) {
        if (!isLayer(layer)) {
            return UNKNOWN;
        }
        int[] counts = new int[7];
        row.forEach(sort -> counts[sort]++);
        finds.layers.set(layer, counts);
        return sortsOf(row).size();
    }

    private static Set<Integer> sortsOf(List<Integer> crumbs) {
        Set<Integer> sorts = new HashSet<>(crumbs);
        sorts.remove(6);
        return sorts;
    }

    private boolean stops(int rule, int n, int behind) {
        List<Integer> looked = row.subList(0, behind);
        if (rule == 0) {
            return behind >= n && sortsOf(looked).equals(sortsOf(row.subList(0, behind - n)));
        }
        int[] counts = new int[7];
        looked.forEach(sort -> counts[sort]++);
        counts[6] = 0;
        if (rule == 1) {
            return java.util.Arrays.stream(counts).sum() >= n;
        }
        java.util.Arrays.sort(counts);
        return counts[6] - counts[5] >= n;
    }

    int stop(int rule, int n) {
        if (!within(rule, 0, 2) || !within(n, 1, 48)) {
            return OUTSIDE;
        }
        for (int behind = 1; behind <= row.size(); behind++) {
            if (stops(rule, n, behind)) {
                return behind;
            }
        }
        return NONE;
    }

    int missed(int rule, int n) {
        int stop = stop(rule, n);
        if (stop < 0) {
            return stop;
        }
        Set<Integer> later = sortsOf(row.subList(stop, row.size()));
        later.removeAll(sortsOf(row.subList(0, stop)));
        return later.stream().mapToInt(sort -> 1 << sort).sum();
    }

    private int saidIn(int layer) {
        int said = 0;
        for (int sort = 0; sort < 6; sort++) {
            said += finds.layers.get(layer)[sort];
        }
        return said;
    }

    private Fraction weight(int layer, int sort) {
        long by = (long) sorted(sort, 0) * (10 - sorted(sort, 2)) * (10 - sorted(sort, 1));
        return Fraction.of(finds.layers.get(layer)[sort] * 100L, by);
    }

    long share(int layer, int sort, boolean upper) {
        if (!isLayer(layer) || !within(sort, 0, 5)) {
            return UNKNOWN;
        }
        if (saidIn(layer) == 0) {
            return STATE;
        }
        Fraction all = Fraction.ZERO;
        for (int each = 0; each < 6; each++) {
            all = all.plus(weight(layer, each));
        }
        return weight(layer, sort).by(all).term(upper);
    }

    /** Null: not asked. */
    private Fraction chance(int layer, int way) {
        int all = ofAll(way, 3);
        if (saidIn(layer) > 12 || all > 30) {
            return null;
        }
        if (all == 0) {
            return saidIn(layer) > 0 ? Fraction.ZERO : Fraction.ONE;
        }
        int[][] taken = gather(way);
        Fraction chance = Fraction.ONE;
        for (int sort = 0; sort < 6; sort++) {
            for (int crumb = 0; crumb < finds.layers.get(layer)[sort]; crumb++) {
                chance = chance.times(Fraction.of(burnt(taken, sort)[3], all));
            }
        }
        return chance;
    }

    long chance(int layer, int way, boolean upper) {
        if (!isLayer(layer) || !within(way, 0, 3)) {
            return UNKNOWN;
        }
        Fraction chance = chance(layer, way);
        return chance == null ? STATE : chance.term(upper);
    }

    /** Null: there are none. */
    private Fraction[] odds(int layer) {
        Fraction[] odds = new Fraction[4];
        Fraction all = Fraction.ZERO;
        for (int way = 0; way < 4; way++) {
            Fraction chance = chance(layer, way);
            if (chance == null) {
                return null;
            }
            odds[way] = Fraction.of(chance.times(Fraction.of(1000000000, 1)).cut(), 1);
            all = all.plus(odds[way]);
        }
        if (all.isZero()) {
            return null;
        }
        for (int way = 0; way < 4; way++) {
            odds[way] = odds[way].by(all);
        }
        return odds;
    }

    long odds(int layer, int way, boolean upper) {
        if (!isLayer(layer) || !within(way, 0, 3)) {
            return UNKNOWN;
        }
        Fraction[] odds = odds(layer);
        return odds == null ? STATE : odds[way].term(upper);
    }

    private static int greatest(Fraction[] odds) {
        int greatest = 3;
        for (int way = 2; way >= 0; way--) {
            if (odds[way].compare(odds[greatest]) >= 0) {
                greatest = way;
            }
        }
        return greatest;
    }

    int likeliest(int layer) {
        if (!isLayer(layer)) {
            return UNKNOWN;
        }
        Fraction[] odds = odds(layer);
        return odds == null ? STATE : greatest(odds);
    }

    long far(int layer, boolean upper) {
        if (!isLayer(layer)) {
            return UNKNOWN;
        }
        Fraction[] odds = odds(layer);
        if (odds == null) {
            return STATE;
        }
        Fraction mean = Fraction.ZERO;
        for (int way = 0; way < 4; way++) {
            mean = mean.plus(odds[way].times(Fraction.of(ways[way][0], 1)));
        }
        return mean.term(upper);
    }

    int lacks(int layer, int way, int sort) {
        if (!isLayer(layer) || !within(way, 0, 3) || !within(sort, 0, 5)) {
            return UNKNOWN;
        }
        boolean stands = false;
        for (int place = 0; place < 4; place++) {
            stands |= pieces(sort, place) > 0 && miles(place) <= ways[way][0];
        }
        if (!stands || counted(layer, sort) > 0) {
            return 0;
        }
        int[] burnt = burnt(gather(way), sort);
        if (ways[way][3] == sort) {
            return 1;
        }
        return burnt[0] == 0 ? 2 : burnt[1] == burnt[0] ? 3 : burnt[3] == 0 ? 4 : 5;
    }

    int next() {
        int next = NONE;
        Fraction least = null;
        for (int layer = 0; layer < finds.layers.size(); layer++) {
            Fraction[] odds = odds(layer);
            Fraction here = odds == null ? Fraction.ZERO : odds[greatest(odds)];
            if (least == null || here.compare(least) < 0) {
                next = layer;
                least = here;
            }
        }
        return next;
    }

    int twig(int layer, int a, int b) {
        if (!isLayer(layer)) {
            return UNKNOWN;
        }
        if (!within(a, 1, 99) || !within(b, 1, 99)) {
            return OUTSIDE;
        }
        if (finds.twigs.size() == 16) {
            return FULL;
        }
        int thick = (a * a + b * b) / b;
        finds.twigs.add(new int[] {layer, thick});
        return thick;
    }

    /** Null: the LAYER has no TWIGS. */
    private Fraction meanOf(int layer) {
        long number = finds.twigs.stream().filter(twig -> twig[0] == layer).count();
        long sum = finds.twigs.stream().filter(twig -> twig[0] == layer).mapToLong(twig -> twig[1]).sum();
        return number == 0 ? null : Fraction.of(sum, number);
    }

    int thins(int layer) {
        if (!isLayer(layer)) {
            return UNKNOWN;
        }
        Fraction lower = meanOf(layer);
        Fraction upper = meanOf(layer + 1);
        if (lower == null || upper == null) {
            return STATE;
        }
        return upper.compare(lower) < 0 ? 1 : 0;
    }

    int longest() {
        int longest = 0;
        for (int from = 0; from < finds.layers.size(); from++) {
            if (meanOf(from) != null) {
                int to = from;
                while (thins(to) == 1) {
                    to++;
                }
                longest = Math.max(longest, to - from + 1);
            }
        }
        return longest;
    }

    int beam(int layer, int rings, int date, boolean midst) {
        if (!isLayer(layer)) {
            return UNKNOWN;
        }
        if (!within(rings, 1, 300) || !within(date, 0, 3000)) {
            return OUTSIDE;
        }
        if (finds.beams.size() == 8) {
            return FULL;
        }
        int cut = midst ? date + rings - 1 : date;
        finds.beams.add(new int[] {layer, cut});
        return cut;
    }

    int earliest(int layer) {
        if (!isLayer(layer)) {
            return UNKNOWN;
        }
        return finds.beams.stream().filter(beam -> beam[0] <= layer).mapToInt(beam -> beam[1]).max().orElse(NONE);
    }

    int tooOld(int beam) {
        if (!within(beam, 0, finds.beams.size() - 1)) {
            return UNKNOWN;
        }
        return earliest(finds.beams.get(beam)[0]) - finds.beams.get(beam)[1];
    }

    int keep(int slot) {
        if (!within(slot, 0, 1)) {
            return UNKNOWN;
        }
        slots[slot] = finds.copy();
        return finds.layers.size();
    }

    int again(int slot) {
        if (!within(slot, 0, 1)) {
            return UNKNOWN;
        }
        if (slots[slot] == null) {
            return STATE;
        }
        finds = slots[slot].copy();
        return finds.layers.size();
    }

    int all(int what) {
        int standing = 0;
        for (int sort = 0; sort < 6; sort++) {
            for (int place = 0; place < 4; place++) {
                standing += pieces(sort, place);
            }
        }
        int[] all = {text.length(), finds.layers.size(), row.size(), finds.twigs.size(), finds.beams.size(), standing};
        return within(what, 0, 5) ? all[what] : OUTSIDE;
    }
}
