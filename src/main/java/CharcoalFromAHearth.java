/**
 * Charcoal from a hearth: woods told as texts, gatherers and their fires, layers of counted crumbs,
 * what was burnt by what is counted, twigs, beams, and slots to go on from.
 *
 * Every number that a call brings is tested in the public method that takes it; the classes inside
 * only see numbers that were tested there, or that count from 0 to a fixed bound. All rows are made
 * by the constructor: no later call makes an object.
 */
public final class CharcoalFromAHearth {
    public static final int UNKNOWN = -1, OUTSIDE = -2, STATE = -3, FULL = -4, NONE = -9;

    private static final int SORTS = 6;
    private static final int PLACES = 4;
    private static final int WAYS = 4;
    private static final int SLOTS = 2;
    private static final int LAYERS = 6;
    /** Where a COUNT or a crumb that can not be said stands: behind those of SORTS. */
    private static final int UNSAID_CRUMBS = SORTS;
    private static final int MOST_TEXT = 64;
    private static final int MOST_CRUMBS = 48;
    private static final int MOST_TWIGS = 16;
    private static final int MOST_BEAMS = 8;
    private static final int MOST_MILES = 9;
    private static final int MOST_PIECES = 60;
    private static final int MOST_COUNT = 99;
    /** THE CHANCE is asked up to these; 30 to the power of 12 fits a long, ten times over. */
    private static final int MOST_DRAWN = 12;
    private static final int MOST_DRAWN_FROM = 30;

    private final Text text = new Text();
    private final Reader reader = new Reader();
    private Wood wood = new Wood();
    private final Way[] ways = new Way[WAYS];
    private final Row row = new Row();
    private final Finds finds = new Finds();
    private final Finds[] slots = new Finds[SLOTS];
    private final boolean[] kept = new boolean[SLOTS];

    public CharcoalFromAHearth() {
        for (int way = 0; way < WAYS; way++) {
            ways[way] = new Way();
        }
        for (int slot = 0; slot < SLOTS; slot++) {
            slots[slot] = new Finds();
        }
    }

    // ---- woods

    public int write(int n, long v) {
        if (n < 1 || n > 8) {
            return OUTSIDE;
        }
        if (text.length + n > MOST_TEXT) {
            return FULL;
        }
        text.append(n, v);
        return text.length;
    }

    public int wipe() {
        int was = text.length;
        text.length = 0;
        return was;
    }

    public int fault() {
        return reader.faultOf(text);
    }

    public int wood() {
        if (reader.faultOf(text) != NONE) {
            return STATE;
        }
        wood = reader.exchange(wood);
        for (int way = 0; way < WAYS; way++) {
            ways[way].goIn(wood);
        }
        return wood.parts;
    }

    public int stands(int sort, int place) {
        if (!isSort(sort) || !isPlace(place)) {
            return UNKNOWN;
        }
        return wood.piecesAt(sort, place);
    }

    public int sorted(int sort, int what) {
        if (!isSort(sort)) {
            return UNKNOWN;
        }
        switch (what) {
            case 0:
                return wood.crumbsOfPiece(sort);
            case 1:
                return wood.tenthsToAsh(sort);
            case 2:
                return wood.tenthsUnsaid(sort);
            default:
                return OUTSIDE;
        }
    }

    public int miles(int place) {
        return isPlace(place) ? wood.milesTo(place) : UNKNOWN;
    }

    // ---- ways, fires

    public int way(int way, int far, int much, int liked, int never) {
        if (!isWay(way)) {
            return UNKNOWN;
        }
        if (far < 0 || far > MOST_MILES || much < 0 || much > MOST_PIECES) {
            return OUTSIDE;
        }
        if (!isSortOrNone(liked) || !isSortOrNone(never)) {
            return OUTSIDE;
        }
        int was = ways[way].far;
        ways[way].become(far, much, liked, never);
        ways[way].goIn(wood);
        return was;
    }

    public int going(int way, int what) {
        if (!isWay(way)) {
            return UNKNOWN;
        }
        switch (what) {
            case 0:
                return ways[way].far;
            case 1:
                return ways[way].much;
            case 2:
                return ways[way].liked;
            case 3:
                return ways[way].never;
            default:
                return OUTSIDE;
        }
    }

    public int gathered(int way, int sort, int place) {
        if (!isWay(way) || !isSort(sort) || !isPlace(place)) {
            return UNKNOWN;
        }
        return ways[way].taken[sort][place];
    }

    public int fire(int way, int sort, int what) {
        if (!isWay(way) || !isSort(sort)) {
            return UNKNOWN;
        }
        switch (what) {
            case 0:
                return ways[way].ash[sort];
            case 1:
                return ways[way].crumbs[sort];
            case 2:
                return ways[way].said[sort];
            default:
                return OUTSIDE;
        }
    }

    public int unsaid(int way) {
        return isWay(way) ? ways[way].unsaidOfAll : UNKNOWN;
    }

    public int walk(int way) {
        return isWay(way) ? ways[way].milesWalkedIn(wood) : UNKNOWN;
    }

    // ---- layers, the row

    public int layer() {
        return finds.layers < LAYERS ? finds.addLayer() : FULL;
    }

    public int count(int layer, int sort, int v) {
        if (!isLayer(layer) || !isSortOrUnsaid(sort)) {
            return UNKNOWN;
        }
        if (v < 0 || v > MOST_COUNT) {
            return OUTSIDE;
        }
        int was = finds.counts[layer][sort];
        finds.counts[layer][sort] = v;
        return was;
    }

    public int counted(int layer, int sort) {
        if (!isLayer(layer) || !isSortOrUnsaid(sort)) {
            return UNKNOWN;
        }
        return finds.counts[layer][sort];
    }

    public int crumb(int sort) {
        if (!isSortOrUnsaid(sort)) {
            return UNKNOWN;
        }
        if (row.length >= MOST_CRUMBS) {
            return FULL;
        }
        row.add(sort);
        return row.length;
    }

    public int sweep() {
        int was = row.length;
        row.length = 0;
        return was;
    }

    public int pour(int layer) {
        if (!isLayer(layer)) {
            return UNKNOWN;
        }
        row.countInto(finds.counts[layer]);
        return finds.sortsIn(layer);
    }

    public int stop(int rule, int n) {
        return isRule(rule) && isRuleNumber(n) ? row.stopBy(rule, n) : OUTSIDE;
    }

    public int missed(int rule, int n) {
        if (!isRule(rule) || !isRuleNumber(n)) {
            return OUTSIDE;
        }
        int stop = row.stopBy(rule, n);
        return stop == NONE ? NONE : row.sortsOnlyBehind(stop);
    }

    public long share(int layer, int sort, boolean upper) {
        if (!isLayer(layer) || !isSort(sort)) {
            return UNKNOWN;
        }
        long all = 0;
        for (int each = 0; each < SORTS; each++) {
            all += piecesBehind(layer, each);
        }
        return all == 0 ? STATE : inLeastTerms(piecesBehind(layer, sort), all, upper);
    }

    // ---- odds

    public long chance(int layer, int way, boolean upper) {
        if (!isLayer(layer) || !isWay(way)) {
            return UNKNOWN;
        }
        if (!isAsked(layer, way)) {
            return STATE;
        }
        return inLeastTerms(drawsThatFit(layer, way), drawsInAll(layer, way), upper);
    }

    public long odds(int layer, int way, boolean upper) {
        if (!isLayer(layer) || !isWay(way)) {
            return UNKNOWN;
        }
        long all = partsOfAll(layer);
        return all == 0 ? STATE : inLeastTerms(partsOf(layer, way), all, upper);
    }

    public int likeliest(int layer) {
        if (!isLayer(layer)) {
            return UNKNOWN;
        }
        return partsOfAll(layer) == 0 ? STATE : wayOfMostParts(layer);
    }

    public long far(int layer, boolean upper) {
        if (!isLayer(layer)) {
            return UNKNOWN;
        }
        long all = partsOfAll(layer);
        if (all == 0) {
            return STATE;
        }
        long milesByParts = 0;
        for (int way = 0; way < WAYS; way++) {
            milesByParts += ways[way].far * partsOf(layer, way);
        }
        return inLeastTerms(milesByParts, all, upper);
    }

    public int lacks(int layer, int way, int sort) {
        if (!isLayer(layer) || !isWay(way) || !isSort(sort)) {
            return UNKNOWN;
        }
        Way by = ways[way];
        if (finds.counts[layer][sort] > 0 || !by.reaches(wood, sort)) {
            return 0;
        }
        if (by.never == sort) {
            return 1;
        }
        if (by.piecesTaken(sort) == 0) {
            return 2;
        }
        if (by.crumbs[sort] == 0) {
            return 3;
        }
        return by.said[sort] == 0 ? 4 : 5;
    }

    public int next() {
        int least = NONE;
        long leastParts = 0;
        long leastAll = 1;
        for (int layer = 0; layer < finds.layers; layer++) {
            long all = partsOfAll(layer);
            long parts = all == 0 ? 0 : partsOf(layer, wayOfMostParts(layer));
            all = Math.max(all, 1);
            // Each side is at most 1000000000 times 4000000000, which fits a long.
            if (least == NONE || parts * leastAll < leastParts * all) {
                least = layer;
                leastParts = parts;
                leastAll = all;
            }
        }
        return least;
    }

    // ---- twigs, beams

    public int twig(int layer, int a, int b) {
        if (!isLayer(layer)) {
            return UNKNOWN;
        }
        if (a < 1 || a > 99 || b < 1 || b > 99) {
            return OUTSIDE;
        }
        if (finds.twigs >= MOST_TWIGS) {
            return FULL;
        }
        int thick = (a * a + b * b) / b;
        finds.addTwig(layer, thick);
        return thick;
    }

    public int thins(int layer) {
        if (!isLayer(layer)) {
            return UNKNOWN;
        }
        if (!isLayer(layer + 1) || finds.twigsIn[layer] == 0 || finds.twigsIn[layer + 1] == 0) {
            return STATE;
        }
        return finds.thinsFrom(layer, layer + 1) ? 1 : 0;
    }

    public int longest() {
        return finds.longestThinning();
    }

    public int beam(int layer, int rings, int date, boolean midst) {
        if (!isLayer(layer)) {
            return UNKNOWN;
        }
        if (rings < 1 || rings > 300 || date < 0 || date > 3000) {
            return OUTSIDE;
        }
        if (finds.beams >= MOST_BEAMS) {
            return FULL;
        }
        int cut = midst ? date + rings - 1 : date;
        finds.addBeam(layer, cut);
        return cut;
    }

    public int earliest(int layer) {
        return isLayer(layer) ? finds.latestCutUpTo(layer) : UNKNOWN;
    }

    public int tooOld(int beam) {
        if (beam < 0 || beam >= finds.beams) {
            return UNKNOWN;
        }
        return finds.latestCutUpTo(finds.layerOfBeam[beam]) - finds.cutOfBeam[beam];
    }

    // ---- slots

    public int keep(int slot) {
        if (!isSlot(slot)) {
            return UNKNOWN;
        }
        slots[slot].becomeLike(finds);
        kept[slot] = true;
        return finds.layers;
    }

    public int again(int slot) {
        if (!isSlot(slot)) {
            return UNKNOWN;
        }
        if (!kept[slot]) {
            return STATE;
        }
        finds.becomeLike(slots[slot]);
        return finds.layers;
    }

    public int all(int what) {
        switch (what) {
            case 0:
                return text.length;
            case 1:
                return finds.layers;
            case 2:
                return row.length;
            case 3:
                return finds.twigs;
            case 4:
                return finds.beams;
            case 5:
                return wood.piecesOfAll();
            default:
                return OUTSIDE;
        }
    }

    // ---- what numbers there are

    private static boolean isSort(int sort) {
        return sort >= 0 && sort < SORTS;
    }

    private static boolean isSortOrNone(int sort) {
        return sort == NONE || isSort(sort);
    }

    private static boolean isSortOrUnsaid(int sort) {
        return sort == UNSAID_CRUMBS || isSort(sort);
    }

    private static boolean isPlace(int place) {
        return place >= 0 && place < PLACES;
    }

    private static boolean isWay(int way) {
        return way >= 0 && way < WAYS;
    }

    private static boolean isSlot(int slot) {
        return slot >= 0 && slot < SLOTS;
    }

    private static boolean isRule(int rule) {
        return rule >= 0 && rule <= 2;
    }

    private static boolean isRuleNumber(int n) {
        return n >= 1 && n <= MOST_CRUMBS;
    }

    private boolean isLayer(int layer) {
        return layer >= 0 && layer < finds.layers;
    }

    // ---- fractions

    private static long inLeastTerms(long up, long down, boolean upper) {
        long common = commonDivisor(up, down);
        if (common < 1) {
            return upper ? 0 : 1;
        }
        return (upper ? up : down) / common;
    }

    private static long commonDivisor(long a, long b) {
        // Euclid needs fewer than a hundred steps for any two longs.
        for (int step = 0; step < 100 && b != 0; step++) {
            long rest = a % b;
            a = b;
            b = rest;
        }
        return a;
    }

    /** How many parts of 1000000000 up by down are, cut; digit by digit, as up times 1000000000 fits no long. */
    private static long billionths(long up, long down) {
        if (down < 1) {
            return 0;
        }
        long parts = up / down;
        long rest = up % down;
        for (int digit = 0; digit < 9; digit++) {
            rest *= 10;
            parts = parts * 10 + rest / down;
            rest %= down;
        }
        return parts;
    }

    // ---- what was burnt

    /**
     * What a COUNT may have been in pieces, all by one and the same divisor: each of k and the tenths
     * left divides 2520, so that 2520 by it stands for 1 by it. At most 99 times 100 times 2520 cubed.
     */
    private long piecesBehind(int layer, int sort) {
        return finds.counts[layer][sort] * 100L
            * by2520(wood.crumbsOfPiece(sort))
            * by2520(10 - wood.tenthsUnsaid(sort))
            * by2520(10 - wood.tenthsToAsh(sort));
    }

    private static long by2520(int divisor) {
        return divisor < 1 ? 0 : 2520 / divisor;
    }

    private boolean isAsked(int layer, int way) {
        return finds.saidIn(layer) <= MOST_DRAWN && ways[way].saidOfAll <= MOST_DRAWN_FROM;
    }

    private long drawsThatFit(int layer, int way) {
        long draws = 1;
        for (int sort = 0; sort < SORTS; sort++) {
            draws *= power(ways[way].said[sort], finds.counts[layer][sort]);
        }
        return draws;
    }

    private long drawsInAll(int layer, int way) {
        // A WAY without SAID crumbs has draws that fit only for a LAYER without any: 0 by 1, or 1 by 1.
        return power(Math.max(ways[way].saidOfAll, 1), finds.saidIn(layer));
    }

    private static long power(long base, int times) {
        long product = 1;
        for (int time = 0; time < times; time++) {
            product *= base;
        }
        return product;
    }

    private long partsOf(int layer, int way) {
        return billionths(drawsThatFit(layer, way), drawsInAll(layer, way));
    }

    /** 0: THE ODDS of this LAYER can not be told. */
    private long partsOfAll(int layer) {
        long all = 0;
        for (int way = 0; way < WAYS; way++) {
            if (!isAsked(layer, way)) {
                return 0;
            }
            all += partsOf(layer, way);
        }
        return all;
    }

    private int wayOfMostParts(int layer) {
        int most = 0;
        for (int way = 1; way < WAYS; way++) {
            if (partsOf(layer, way) > partsOf(layer, most)) {
                most = way;
            }
        }
        return most;
    }

    /** THE TEXT. */
    private static final class Text {
        final byte[] bytes = new byte[MOST_TEXT];
        int length;

        void append(int n, long v) {
            for (int left = n - 1; left >= 0 && length < MOST_TEXT; left--) {
                bytes[length] = (byte) (v >>> (8 * left));
                length++;
            }
        }
    }

    /** What is told of pieces, SORTS and PLACES: one number a key, the keys of a kind side by side. */
    private static final class Wood {
        static final int PIECES = 0;
        static final int BREAKS = PIECES + SORTS * PLACES;
        static final int TO_ASH = BREAKS + SORTS;
        static final int NOT_SAID = TO_ASH + SORTS;
        static final int MILES_OFF = NOT_SAID + SORTS;
        static final int KEYS = MILES_OFF + PLACES;
        private static final int UNTOLD = -1;

        private final int[] told = new int[KEYS];
        int parts;

        Wood() {
            forget();
        }

        void forget() {
            parts = 0;
            for (int key = 0; key < KEYS; key++) {
                told[key] = UNTOLD;
            }
        }

        void tell(int key, int number) {
            told[key] = number;
            parts++;
        }

        boolean tells(int key) {
            return told[key] != UNTOLD;
        }

        boolean tellsEach(int first, int many) {
            for (int key = first; key < first + many; key++) {
                if (!tells(key)) {
                    return false;
                }
            }
            return true;
        }

        private int toldOr(int key, int otherwise) {
            return told[key] == UNTOLD ? otherwise : told[key];
        }

        int piecesAt(int sort, int place) {
            return toldOr(PIECES + sort * PLACES + place, 0);
        }

        int crumbsOfPiece(int sort) {
            return toldOr(BREAKS + sort, 2);
        }

        int tenthsToAsh(int sort) {
            return toldOr(TO_ASH + sort, 0);
        }

        int tenthsUnsaid(int sort) {
            return toldOr(NOT_SAID + sort, 0);
        }

        int milesTo(int place) {
            return toldOr(MILES_OFF + place, place);
        }

        int piecesOfAll() {
            int pieces = 0;
            for (int key = PIECES; key < BREAKS; key++) {
                pieces += toldOr(key, 0);
            }
            return pieces;
        }
    }

    /** Reads THE TEXT byte by byte; what it expects next tells whether a byte can stand there. */
    private static final class Reader {
        private static final int A_KIND = 0;
        private static final int A_SORT = 1;
        private static final int A_PLACE = 2;
        private static final int A_NUMBER = 3;

        /** What has been read so far. */
        private Wood wood = new Wood();
        private int expected;
        /** The first key of those that the PART may yet come to have; at its number, the one it has. */
        private int key;
        private int leastNumber;

        int faultOf(Text text) {
            wood.forget();
            expected = A_KIND;
            for (int at = 0; at < text.length; at++) {
                if (!takes(text.bytes[at])) {
                    return at;
                }
            }
            return expected == A_KIND ? NONE : text.length;
        }

        /** Hands over the WOOD that was read, for one to read the next into: so none is made anew. */
        Wood exchange(Wood old) {
            Wood read = wood;
            wood = old;
            return read;
        }

        private boolean takes(int sign) {
            int digit = sign - '0';
            switch (expected) {
                case A_KIND:
                    return takesKind(sign);
                case A_SORT:
                    return digit >= 0 && digit < SORTS && takesSort(digit);
                case A_PLACE:
                    return digit >= 0 && digit < PLACES && takesKey(key + digit);
                default:
                    return digit >= leastNumber && digit <= 9 && takesNumber(digit);
            }
        }

        private boolean takesKind(int sign) {
            switch (sign) {
                case 'S':
                    return begins(Wood.PIECES, SORTS * PLACES, 1, A_SORT);
                case 'B':
                    return begins(Wood.BREAKS, SORTS, 1, A_SORT);
                case 'A':
                    return begins(Wood.TO_ASH, SORTS, 0, A_SORT);
                case 'U':
                    return begins(Wood.NOT_SAID, SORTS, 0, A_SORT);
                case 'D':
                    return begins(Wood.MILES_OFF, PLACES, 0, A_PLACE);
                default:
                    return false;
            }
        }

        /** A kind of which each is told already can not come again, whatever came behind it. */
        private boolean begins(int firstKey, int keys, int least, int then) {
            key = firstKey;
            leastNumber = least;
            expected = then;
            return !wood.tellsEach(firstKey, keys);
        }

        private boolean takesSort(int sort) {
            if (key != Wood.PIECES) {
                return takesKey(key + sort);
            }
            key = Wood.PIECES + sort * PLACES;
            expected = A_PLACE;
            return !wood.tellsEach(key, PLACES);
        }

        private boolean takesKey(int whole) {
            key = whole;
            expected = A_NUMBER;
            return !wood.tells(whole);
        }

        private boolean takesNumber(int digit) {
            wood.tell(key, digit);
            expected = A_KIND;
            return true;
        }
    }

    /** A WAY, and what it gathers and burns in THE WOOD, worked out anew when either changes. */
    private static final class Way {
        int far = 0;
        int much = 10;
        int liked = NONE;
        int never = NONE;

        final int[][] taken = new int[SORTS][PLACES];
        final int[] ash = new int[SORTS];
        final int[] crumbs = new int[SORTS];
        final int[] said = new int[SORTS];
        int saidOfAll;
        int unsaidOfAll;
        private int had;

        void become(int newFar, int newMuch, int newLiked, int newNever) {
            far = newFar;
            much = newMuch;
            liked = newLiked;
            never = newNever;
        }

        void goIn(Wood wood) {
            takeNothing();
            if (liked != NONE && liked != never) {
                takeLiked(wood);
            }
            takeOthers(wood);
            burn(wood);
        }

        private void takeNothing() {
            had = 0;
            for (int sort = 0; sort < SORTS; sort++) {
                for (int place = 0; place < PLACES; place++) {
                    taken[sort][place] = 0;
                }
            }
        }

        private void takeLiked(Wood wood) {
            for (int miles = 0; miles <= far; miles++) {
                for (int place = 0; place < PLACES; place++) {
                    if (wood.milesTo(place) == miles) {
                        int pieces = Math.min(wood.piecesAt(liked, place), much - had);
                        taken[liked][place] = pieces;
                        had += pieces;
                    }
                }
            }
        }

        private void takeOthers(Wood wood) {
            for (int miles = 0; miles <= far; miles++) {
                for (int place = 0; place < PLACES; place++) {
                    if (wood.milesTo(place) == miles) {
                        takeAt(wood, place);
                    }
                }
            }
        }

        private void takeAt(Wood wood, int place) {
            for (; had < much; had++) {
                int sort = sortOfMostLeft(wood, place);
                if (sort == NONE) {
                    return;
                }
                taken[sort][place]++;
            }
        }

        private int sortOfMostLeft(Wood wood, int place) {
            int most = NONE;
            int mostLeft = 0;
            for (int sort = 0; sort < SORTS; sort++) {
                int left = wood.piecesAt(sort, place) - taken[sort][place];
                if (sort != never && left > mostLeft) {
                    most = sort;
                    mostLeft = left;
                }
            }
            return most;
        }

        private void burn(Wood wood) {
            saidOfAll = 0;
            unsaidOfAll = 0;
            for (int sort = 0; sort < SORTS; sort++) {
                int pieces = piecesTaken(sort);
                ash[sort] = tenthsOf(pieces, wood.tenthsToAsh(sort));
                crumbs[sort] = (pieces - ash[sort]) * wood.crumbsOfPiece(sort);
                int unsaid = tenthsOf(crumbs[sort], wood.tenthsUnsaid(sort));
                said[sort] = crumbs[sort] - unsaid;
                saidOfAll += said[sort];
                unsaidOfAll += unsaid;
            }
        }

        /** A part of one counts as one. */
        private static int tenthsOf(int many, int tenths) {
            return (many * tenths + 9) / 10;
        }

        int piecesTaken(int sort) {
            int pieces = 0;
            for (int place = 0; place < PLACES; place++) {
                pieces += taken[sort][place];
            }
            return pieces;
        }

        boolean reaches(Wood wood, int sort) {
            for (int place = 0; place < PLACES; place++) {
                if (wood.milesTo(place) <= far && wood.piecesAt(sort, place) > 0) {
                    return true;
                }
            }
            return false;
        }

        int milesWalkedIn(Wood wood) {
            int miles = 0;
            for (int place = 0; place < PLACES; place++) {
                if (takesAnyAt(place)) {
                    miles += 2 * wood.milesTo(place);
                }
            }
            return miles;
        }

        private boolean takesAnyAt(int place) {
            for (int sort = 0; sort < SORTS; sort++) {
                if (taken[sort][place] > 0) {
                    return true;
                }
            }
            return false;
        }
    }

    /** THE ROW, and what has been seen of it while one looks at it again from its first crumb on. */
    private static final class Row {
        private final int[] crumbs = new int[MOST_CRUMBS];
        int length;

        private final int[] seen = new int[SORTS + 1];
        private int sinceNew;
        private int said;

        void add(int sort) {
            crumbs[length] = sort;
            length++;
        }

        void countInto(int[] counts) {
            for (int sort = 0; sort <= UNSAID_CRUMBS; sort++) {
                counts[sort] = 0;
            }
            for (int at = 0; at < length; at++) {
                counts[crumbs[at]]++;
            }
        }

        int stopBy(int rule, int n) {
            lookAtNone();
            for (int at = 0; at < length; at++) {
                lookAt(crumbs[at]);
                if (reachedBy(rule) >= n) {
                    return at + 1;
                }
            }
            return NONE;
        }

        private void lookAtNone() {
            sinceNew = 0;
            said = 0;
            for (int sort = 0; sort <= UNSAID_CRUMBS; sort++) {
                seen[sort] = 0;
            }
        }

        private void lookAt(int sort) {
            boolean isNew = sort != UNSAID_CRUMBS && seen[sort] == 0;
            sinceNew = isNew ? 0 : sinceNew + 1;
            if (sort != UNSAID_CRUMBS) {
                said++;
            }
            seen[sort]++;
        }

        private int reachedBy(int rule) {
            switch (rule) {
                case 0:
                    return sinceNew;
                case 1:
                    return said;
                default:
                    return mostLessNext();
            }
        }

        private int mostLessNext() {
            int most = 0;
            int second = 0;
            for (int sort = 0; sort < SORTS; sort++) {
                if (seen[sort] > most) {
                    second = most;
                    most = seen[sort];
                } else if (seen[sort] > second) {
                    second = seen[sort];
                }
            }
            return most - second;
        }

        /** As bits; the crumbs ahead of the stop are looked at already. */
        int sortsOnlyBehind(int stop) {
            int sorts = 0;
            for (int at = stop; at < length; at++) {
                int sort = crumbs[at];
                if (sort != UNSAID_CRUMBS && seen[sort] == 0) {
                    sorts |= 1 << sort;
                }
            }
            return sorts;
        }
    }

    /** LAYERS, TWIGS and BEAMS: what a slot keeps. Rows of LAYERS that there are not yet hold nothing. */
    private static final class Finds {
        int layers;
        final int[][] counts = new int[LAYERS][SORTS + 1];

        int twigs;
        final int[] twigsIn = new int[LAYERS];
        private final int[] thicknessIn = new int[LAYERS];

        int beams;
        final int[] layerOfBeam = new int[MOST_BEAMS];
        final int[] cutOfBeam = new int[MOST_BEAMS];

        int addLayer() {
            layers++;
            return layers - 1;
        }

        int saidIn(int layer) {
            int said = 0;
            for (int sort = 0; sort < SORTS; sort++) {
                said += counts[layer][sort];
            }
            return said;
        }

        int sortsIn(int layer) {
            int sorts = 0;
            for (int sort = 0; sort < SORTS; sort++) {
                sorts += counts[layer][sort] > 0 ? 1 : 0;
            }
            return sorts;
        }

        void addTwig(int layer, int thick) {
            twigs++;
            twigsIn[layer]++;
            thicknessIn[layer] += thick;
        }

        /** Of two LAYERS with TWIGS: whether the mean of the upper is less. */
        boolean thinsFrom(int lower, int upper) {
            return thicknessIn[upper] * twigsIn[lower] < thicknessIn[lower] * twigsIn[upper];
        }

        int longestThinning() {
            int longest = 0;
            int length = 0;
            for (int layer = 0; layer < layers; layer++) {
                if (twigsIn[layer] == 0) {
                    length = 0;
                } else if (length > 0 && thinsFrom(layer - 1, layer)) {
                    length++;
                } else {
                    length = 1;
                }
                longest = Math.max(longest, length);
            }
            return longest;
        }

        void addBeam(int layer, int cut) {
            layerOfBeam[beams] = layer;
            cutOfBeam[beams] = cut;
            beams++;
        }

        int latestCutUpTo(int layer) {
            int latest = NONE;
            for (int beam = 0; beam < beams; beam++) {
                if (layerOfBeam[beam] <= layer) {
                    latest = Math.max(latest, cutOfBeam[beam]);
                }
            }
            return latest;
        }

        void becomeLike(Finds other) {
            layers = other.layers;
            twigs = other.twigs;
            beams = other.beams;
            for (int layer = 0; layer < LAYERS; layer++) {
                System.arraycopy(other.counts[layer], 0, counts[layer], 0, SORTS + 1);
            }
            System.arraycopy(other.twigsIn, 0, twigsIn, 0, LAYERS);
            System.arraycopy(other.thicknessIn, 0, thicknessIn, 0, LAYERS);
            System.arraycopy(other.layerOfBeam, 0, layerOfBeam, 0, MOST_BEAMS);
            System.arraycopy(other.cutOfBeam, 0, cutOfBeam, 0, MOST_BEAMS);
        }
    }
}
