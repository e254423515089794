/** Boxes, things and sheets of paper by whole sides, and what wrapping them takes. */
public final class PaperBoxes {
    public static final int UNKNOWN = -1, OUTSIDE = -2, STATE = -3, FULL = -4, NO = -5, NONE = -6;

    private static final int NUMBERS = 6;
    private static final int SETS = 64;
    private static final int AXES = 3;
    private static final int TURNS = 2;
    private static final int COLUMNS = 3;
    private static final int SORTS = 3;
    private static final int IMAGES = 2;

    private static final int LONGEST_SIDE = 20;
    private static final int LONGEST_SHEET = 150;
    private static final int LONGEST_LENGTH = 300;
    private static final int DEAREST = 99;
    private static final int MOST_CUT = 4;
    private static final int GREATEST_ROUND = 89;
    private static final int GREATEST_SEED = 9999;
    private static final int MOST_PRESENTS = 99;
    private static final int SAVED_BASE = 100000;

    private static final int LAP = 0, EDGE = 1, PERIOD = 2, KNOT = 3;
    private static final int[] SETTINGS_LEAST = {0, 0, 1, 0};
    private static final int[] SETTINGS_MOST = {9, 9, 40, 60};

    private final Goods goods = new Goods();
    private final Goods firstImage = new Goods();
    private final Goods secondImage = new Goods();
    private int imagesKept;
    private final Pad pad = new Pad();
    private final Wrap wrap = new Wrap();
    private final Pieces sideBySide = new Pieces();
    private final Cutter cutter = new Cutter();
    private final Order order = new Order();
    private final Pairing pairing = new Pairing();

    public PaperBoxes() {
    }

    // ---- 1 boxes, things, sheets

    public int box(int box, int a, int b, int c) {
        return putSolid(goods.boxes, box, a, b, c);
    }

    public int thing(int thing, int a, int b, int c) {
        return putSolid(goods.things, thing, a, b, c);
    }

    public int sheet(int sheet, int width, int height) {
        if (!isNumber(sheet)) {
            return UNKNOWN;
        }
        if (!isWithin(width, 1, LONGEST_SHEET) || !isWithin(height, 1, LONGEST_SHEET)) {
            return OUTSIDE;
        }
        goods.sheets.put(sheet, width, height, 0);
        return goods.sheets.count();
    }

    public int drop(int sort, int number) {
        if (!isWithin(sort, 0, SORTS - 1)) {
            return OUTSIDE;
        }
        Shelf shelf = goods.shelf(sort);
        if (!shelf.has(number)) {
            return UNKNOWN;
        }
        shelf.remove(number);
        return shelf.count();
    }

    public int set(int which, int v) {
        if (!isWithin(which, LAP, KNOT)) {
            return OUTSIDE;
        }
        if (!isWithin(v, SETTINGS_LEAST[which], SETTINGS_MOST[which])) {
            return OUTSIDE;
        }
        int was = goods.setting(which);
        goods.change(which, v);
        return was;
    }

    public int say(int sign) {
        if (!isWithin(sign, Pad.FIRST_SIGN, Pad.LAST_SIGN)) {
            return OUTSIDE;
        }
        return pad.add(sign) ? pad.count() : FULL;
    }

    public int wipe() {
        int were = pad.count();
        pad.clear();
        return were;
    }

    public int fault() {
        return pad.scan(null);
    }

    public int lay() {
        if (pad.scan(null) != NONE) {
            return NO;
        }
        if (!pad.hasPlaceIn(goods)) {
            return FULL;
        }
        pad.scan(goods);
        int parts = pad.parts();
        pad.clear();
        return parts;
    }

    // ---- 2 straight, slant

    public int need(int box, int axis, int what) {
        if (!isBoxByAxis(box, axis)) {
            return UNKNOWN;
        }
        if (!isWithin(what, 0, 2)) {
            return OUTSIDE;
        }
        Wrap measured = wrapOf(box);
        if (what == 0) {
            return measured.round(axis);
        }
        return what == 1 ? measured.reach(axis) : measured.paper(axis);
    }

    public int least(int box, int what) {
        if (!goods.boxes.has(box)) {
            return UNKNOWN;
        }
        if (!isWithin(what, 0, 1)) {
            return OUTSIDE;
        }
        Wrap measured = wrapOf(box);
        return what == 0 ? measured.leastAxis() : measured.leastPaper();
    }

    public int does(int box, int sheet, int what) {
        if (!goods.boxes.has(box) || !goods.sheets.has(sheet)) {
            return UNKNOWN;
        }
        if (!isWithin(what, 0, 2)) {
            return OUTSIDE;
        }
        Wrap measured = wrapOf(box);
        int way = measured.wayOnSheet(goods.sheets.side(sheet, 0), goods.sheets.side(sheet, 1));
        if (way == NONE) {
            return NONE;
        }
        if (what == 0) {
            return axisOf(way);
        }
        return what == 1 ? turnOf(way) : goods.sheets.area(sheet) - measured.paper(axisOf(way));
    }

    public int taken(int box) {
        if (!goods.boxes.has(box)) {
            return UNKNOWN;
        }
        return goods.sheets.leastAreaOf(sheetsDoingFor(box));
    }

    public int shortBy(int box, int sheet, int axis, int turn) {
        if (!isBoxByAxis(box, axis) || !goods.sheets.has(sheet)) {
            return UNKNOWN;
        }
        if (!isWithin(turn, 0, TURNS - 1)) {
            return OUTSIDE;
        }
        return wrapOf(box).lackOn(axis, turn, goods.sheets.side(sheet, 0), goods.sheets.side(sheet, 1));
    }

    public int slant(int box, int axis) {
        if (!isBoxByAxis(box, axis)) {
            return UNKNOWN;
        }
        return wrapOf(box).squareFor(axis);
    }

    public int slants(int box, int sheet) {
        if (!goods.boxes.has(box) || !goods.sheets.has(sheet)) {
            return UNKNOWN;
        }
        int square = wrapOf(box).leastSquare();
        int lesser = Math.min(goods.sheets.side(sheet, 0), goods.sheets.side(sheet, 1));
        return square != NONE && square <= lesser ? 1 : 0;
    }

    public int saved(int box) {
        if (!goods.boxes.has(box)) {
            return UNKNOWN;
        }
        Wrap measured = wrapOf(box);
        int square = measured.leastSquare();
        return square == NONE ? NONE : SAVED_BASE + measured.leastPaper() - square * square;
    }

    // ---- 3 rolls, pieces, cuts

    public int roll(int box, int width, int what) {
        if (!goods.boxes.has(box)) {
            return UNKNOWN;
        }
        if (!isWithin(width, 1, LONGEST_SHEET) || !isWithin(what, 0, 2)) {
            return OUTSIDE;
        }
        Wrap measured = wrapOf(box);
        int way = measured.wayOffRoll(width);
        if (way == NONE) {
            return NONE;
        }
        if (what == 0) {
            return measured.lengthOff(way);
        }
        return what == 1 ? axisOf(way) : turnOf(way);
    }

    public int cheaper(int box, int width, int pence, int other, int otherPence, int what) {
        if (!goods.boxes.has(box)) {
            return UNKNOWN;
        }
        if (!isRoll(width, pence) || !isRoll(other, otherPence) || !isWithin(what, 0, 1)) {
            return OUTSIDE;
        }
        int price = priceOff(box, width, pence);
        int otherPrice = priceOff(box, other, otherPence);
        if (price == NONE && otherPrice == NONE) {
            return NONE;
        }
        boolean isOther = price == NONE || otherPrice != NONE && otherPrice < price;
        if (what == 0) {
            return isOther ? 1 : 0;
        }
        return isOther ? otherPrice : price;
    }

    public int narrow(int box, int length) {
        if (!goods.boxes.has(box)) {
            return UNKNOWN;
        }
        if (!isWithin(length, 1, LONGEST_LENGTH)) {
            return OUTSIDE;
        }
        return wrapOf(box).leastAcross(length);
    }

    public int pieces(int box, int axis, int what) {
        if (!isBoxByAxis(box, axis)) {
            return UNKNOWN;
        }
        if (!isWithin(what, 0, 1)) {
            return OUTSIDE;
        }
        Wrap measured = wrapOf(box);
        sideBySide.gather(goods.sheets, measured.reach(axis));
        int which = sideBySide.fewest(measured.girth(axis), goods.setting(LAP));
        if (which == NONE) {
            return NONE;
        }
        return what == 0 ? Integer.bitCount(which) : which;
    }

    public int cut(int set, int sheet) {
        if (!goods.sheets.has(sheet)) {
            return UNKNOWN;
        }
        if (!goods.boxes.holdsAll(set)) {
            return OUTSIDE;
        }
        if (Integer.bitCount(set) > MOST_CUT) {
            return FULL;
        }
        startCuts(set, sheet);
        return cutter.gives(set) ? 1 : 0;
    }

    public int most(int sheet, int what) {
        if (!goods.sheets.has(sheet)) {
            return UNKNOWN;
        }
        if (!isWithin(what, 0, 2)) {
            return OUTSIDE;
        }
        int there = goods.boxes.bits();
        startCuts(there, sheet);
        int which = cutter.greatestOf(there);
        if (what == 0) {
            return Integer.bitCount(which);
        }
        return what == 1 ? which : goods.sheets.area(sheet) - cutter.paperOf(which);
    }

    public int usedUp(int set, int i) {
        if (!goods.boxes.holdsAll(set)) {
            return OUTSIDE;
        }
        for (int box = 0; box < NUMBERS; box++) {
            order.suit(box, isIn(set, box) ? sheetsDoingFor(box) : 0);
        }
        order.search(set, goods.sheets);
        return i == -1 ? order.wrapped() : order.boxAt(i);
    }

    // ---- 4 patterns, ribbons, things, folds

    public int pleat(int box, int axis) {
        if (!isBoxByAxis(box, axis)) {
            return UNKNOWN;
        }
        return pleatOf(wrapOf(box).girth(axis));
    }

    public int match(int box) {
        if (!goods.boxes.has(box)) {
            return UNKNOWN;
        }
        Wrap measured = wrapOf(box);
        int bits = 0;
        for (int axis = 0; axis < AXES; axis++) {
            if (pleatOf(measured.girth(axis)) == 0) {
                bits |= 1 << axis;
            }
        }
        return bits;
    }

    public int ribbon(int box, int axis) {
        if (!isBoxByAxis(box, axis)) {
            return UNKNOWN;
        }
        Wrap measured = wrapOf(box);
        return measured.girth(axis) + 4 * measured.along(axis) + goods.setting(KNOT);
    }

    public int corners(int box, int axis, int what) {
        if (!isBoxByAxis(box, axis)) {
            return UNKNOWN;
        }
        if (!isWithin(what, 0, 1)) {
            return OUTSIDE;
        }
        int square = wrapOf(box).cornerSquare(axis);
        return what == 0 ? rootAbove(square) + goods.setting(KNOT) : rootBelow(10000 * square);
    }

    public int fits(int thing, int box) {
        if (!goods.things.has(thing) || !goods.boxes.has(box)) {
            return UNKNOWN;
        }
        return isRoomFor(thing, box) ? 1 : 0;
    }

    public int tight(int thing) {
        if (!goods.things.has(thing)) {
            return UNKNOWN;
        }
        int boxes = boxesWithRoomFor(thing);
        int best = NONE;
        int bestPaper = 0;
        for (int box = 0; box < NUMBERS; box++) {
            int paper = isIn(boxes, box) ? wrapOf(box).leastPaper() : 0;
            if (isIn(boxes, box) && (best == NONE || paper < bestPaper)) {
                best = box;
                bestPaper = paper;
            }
        }
        return best;
    }

    public int paired(int set, int thing) {
        if (!goods.things.holdsAll(set)) {
            return OUTSIDE;
        }
        if (thing != -1 && !(isNumber(thing) && isIn(set, thing))) {
            return UNKNOWN;
        }
        startPairs(set);
        pairing.search(set, goods.boxes.bits());
        return thing == -1 ? pairing.paper() : pairing.boxOf(thing);
    }

    public int mark(int sort, int distance) {
        if (!isWithin(sort, 0, 1)) {
            return OUTSIDE;
        }
        Marks marks = goods.marks(sort);
        if (!isWithin(distance, 0, marks.farthest())) {
            return OUTSIDE;
        }
        return marks.add(distance) ? marks.count() : FULL;
    }

    public int iron(int sort) {
        if (!isWithin(sort, 0, 1)) {
            return OUTSIDE;
        }
        Marks marks = goods.marks(sort);
        int were = marks.count();
        marks.clear();
        return were;
    }

    public int hidden(int box, int axis, int sheet, int what) {
        if (!isBoxByAxis(box, axis) || !goods.sheets.has(sheet)) {
            return UNKNOWN;
        }
        if (!isWithin(what, 0, 1)) {
            return OUTSIDE;
        }
        Wrap measured = wrapOf(box);
        int round = measured.round(axis);
        int underLap = goods.setting(LAP) + measured.u(axis);
        int last = goods.sheets.side(sheet, 0) - round;
        int count = 0;
        int first = NONE;
        for (int x = 0; x <= last; x++) {
            if (goods.folds.areHidden(x, round, underLap)) {
                count++;
                first = first == NONE ? x : first;
            }
        }
        return what == 0 ? count : first;
    }

    public int undone(int r, int what) {
        if (!isWithin(r, 0, GREATEST_ROUND) || !isWithin(what, 0, 1)) {
            return OUTSIDE;
        }
        int lap = goods.setting(LAP);
        int count = 0;
        int first = NONE;
        for (int u = 1; u <= LONGEST_SIDE; u++) {
            for (int v = 1; v <= LONGEST_SIDE; v++) {
                boolean isRound = r == 0 || 2 * (u + v) + lap == r;
                if (isRound && goods.creases.areOf(lap, u, v)) {
                    count++;
                    first = first == NONE ? 100 * u + v : first;
                }
            }
        }
        return what == 0 ? count : first;
    }

    public int year(int seed, int n, int sheet, int what) {
        if (!goods.sheets.has(sheet)) {
            return UNKNOWN;
        }
        if (!isWithin(seed, 0, GREATEST_SEED) || !isWithin(n, 1, MOST_PRESENTS) || !isWithin(what, 0, 2)) {
            return OUTSIDE;
        }
        int x = seed;
        int count = 0;
        int mostLeft = NONE;
        int paper = 0;
        for (int present = 0; present < n; present++) {
            x = (75 * x + 74) % 65537;
            measure(1 + x % 20, 1 + x / 20 % 20, 1 + x / 400 % 20);
            paper += wrap.leastPaper();
            int way = wrap.wayOnSheet(goods.sheets.side(sheet, 0), goods.sheets.side(sheet, 1));
            if (way != NONE) {
                count++;
                mostLeft = Math.max(mostLeft, goods.sheets.area(sheet) - wrap.paper(axisOf(way)));
            }
        }
        if (what == 0) {
            return count;
        }
        return what == 1 ? mostLeft : paper;
    }

    public int image(int n) {
        if (!isWithin(n, 0, IMAGES - 1)) {
            return OUTSIDE;
        }
        imageOf(n).copyFrom(goods);
        imagesKept |= 1 << n;
        return 1;
    }

    public int restore(int n) {
        if (!isWithin(n, 0, IMAGES - 1)) {
            return OUTSIDE;
        }
        if (!isIn(imagesKept, n)) {
            return STATE;
        }
        goods.copyFrom(imageOf(n));
        return 1;
    }

    public int told(int what) {
        if (what >= 100) {
            return toldSide(what / 100 - 1, what % 100);
        }
        switch (what) {
            case 0: return pad.count();
            case 1: return goods.boxes.bits();
            case 2: return goods.things.bits();
            case 3: return goods.sheets.bits();
            case 4: return goods.setting(LAP);
            case 5: return goods.setting(EDGE);
            case 6: return goods.setting(PERIOD);
            case 7: return goods.setting(KNOT);
            case 8: return goods.folds.count();
            case 9: return goods.creases.count();
            default: return OUTSIDE;
        }
    }

    // ---- what several calls ask

    private static boolean isWithin(int v, int first, int last) {
        return v >= first && v <= last;
    }

    private static boolean isNumber(int number) {
        return number >= 0 && number < NUMBERS;
    }

    private static boolean isSide(int v) {
        return isWithin(v, 1, LONGEST_SIDE);
    }

    private static boolean isIn(int bits, int number) {
        return (bits >> number & 1) == 1;
    }

    private static boolean isRoll(int width, int pence) {
        return isWithin(width, 1, LONGEST_SHEET) && isWithin(pence, 0, DEAREST);
    }

    private static int axisOf(int way) {
        return way / TURNS;
    }

    private static int turnOf(int way) {
        return way % TURNS;
    }

    /** The greatest whole number whose square is no more. */
    private static int rootBelow(int square) {
        int root = 0;
        for (int bit = 1 << 14; bit > 0; bit >>= 1) {
            int trial = root + bit;
            if (trial * trial <= square) {
                root = trial;
            }
        }
        return root;
    }

    /** The least whole number whose square is no less. */
    private static int rootAbove(int square) {
        int root = rootBelow(square);
        return root * root < square ? root + 1 : root;
    }

    private boolean isBoxByAxis(int box, int axis) {
        return goods.boxes.has(box) && isWithin(axis, 0, AXES - 1);
    }

    private int putSolid(Shelf shelf, int number, int a, int b, int c) {
        if (!isNumber(number)) {
            return UNKNOWN;
        }
        if (!isSide(a) || !isSide(b) || !isSide(c)) {
            return OUTSIDE;
        }
        shelf.put(number, a, b, c);
        return shelf.count();
    }

    private void measure(int a, int b, int c) {
        wrap.measure(a, b, c, goods.setting(LAP), goods.setting(EDGE));
    }

    /** One measure serves all boxes, so it holds only until the next box is measured. */
    private Wrap wrapOf(int box) {
        measure(goods.boxes.side(box, 0), goods.boxes.side(box, 1), goods.boxes.side(box, 2));
        return wrap;
    }

    private int sheetsDoingFor(int box) {
        Wrap measured = wrapOf(box);
        int bits = 0;
        for (int sheet = 0; sheet < NUMBERS; sheet++) {
            if (goods.sheets.has(sheet)
                    && measured.wayOnSheet(goods.sheets.side(sheet, 0), goods.sheets.side(sheet, 1)) != NONE) {
                bits |= 1 << sheet;
            }
        }
        return bits;
    }

    private int priceOff(int box, int width, int pence) {
        Wrap measured = wrapOf(box);
        int way = measured.wayOffRoll(width);
        return way == NONE ? NONE : measured.lengthOff(way) * pence;
    }

    private void startCuts(int set, int sheet) {
        cutter.start(goods.sheets.side(sheet, 0), goods.sheets.side(sheet, 1));
        for (int box = 0; box < NUMBERS; box++) {
            if (isIn(set, box)) {
                Wrap measured = wrapOf(box);
                int axis = measured.leastAxis();
                cutter.want(box, measured.round(axis), measured.reach(axis));
            }
        }
    }

    private int pleatOf(int girth) {
        int period = goods.setting(PERIOD);
        if (period < 1) {
            return 0;
        }
        int over = girth % period;
        return over == 0 ? 0 : period - over;
    }

    private boolean isRoomFor(int thing, int box) {
        Shelf things = goods.things;
        Shelf boxes = goods.boxes;
        return things.lesserSide(thing) <= boxes.lesserSide(box)
                && things.middleSide(thing) <= boxes.middleSide(box)
                && things.greaterSide(thing) <= boxes.greaterSide(box);
    }

    private int boxesWithRoomFor(int thing) {
        int bits = 0;
        for (int box = 0; box < NUMBERS; box++) {
            if (goods.boxes.has(box) && isRoomFor(thing, box)) {
                bits |= 1 << box;
            }
        }
        return bits;
    }

    private void startPairs(int set) {
        for (int box = 0; box < NUMBERS; box++) {
            pairing.price(box, goods.boxes.has(box) ? wrapOf(box).leastPaper() : 0);
        }
        for (int thing = 0; thing < NUMBERS; thing++) {
            pairing.allow(thing, isIn(set, thing) ? boxesWithRoomFor(thing) : 0);
        }
    }

    private Goods imageOf(int n) {
        return n == 0 ? firstImage : secondImage;
    }

    private int toldSide(int number, int detail) {
        int sort = detail / 10;
        int column = detail % 10;
        if (!isWithin(sort, 0, SORTS - 1)) {
            return OUTSIDE;
        }
        Shelf shelf = goods.shelf(sort);
        if (!shelf.has(number) || column >= shelf.columns()) {
            return OUTSIDE;
        }
        return shelf.side(number, column);
    }

    /** Up to six numbered boxes, things or sheets, each by its sides. */
    private static final class Shelf {
        private final int columns;
        private final int[] sides = new int[NUMBERS * COLUMNS];
        private int bits;

        Shelf(int columns) {
            this.columns = columns;
        }

        int columns() {
            return columns;
        }

        int bits() {
            return bits;
        }

        int count() {
            return Integer.bitCount(bits);
        }

        boolean has(int number) {
            return isNumber(number) && isIn(bits, number);
        }

        boolean holdsAll(int set) {
            return (set & ~bits) == 0;
        }

        void put(int number, int a, int b, int c) {
            if (isNumber(number)) {
                sides[number * COLUMNS] = a;
                sides[number * COLUMNS + 1] = b;
                sides[number * COLUMNS + 2] = c;
                bits |= 1 << number;
            }
        }

        void putAtFirstFree(int a, int b, int c) {
            for (int number = 0; number < NUMBERS; number++) {
                if (!has(number)) {
                    put(number, a, b, c);
                    return;
                }
            }
        }

        void remove(int number) {
            if (isNumber(number)) {
                bits &= ~(1 << number);
            }
        }

        int side(int number, int column) {
            if (number < 0 || number >= NUMBERS || column < 0 || column >= COLUMNS) {
                return 0;
            }
            return sides[number * COLUMNS + column];
        }

        int area(int number) {
            return side(number, 0) * side(number, 1);
        }

        int leastAreaOf(int set) {
            int best = NONE;
            for (int number = 0; number < NUMBERS; number++) {
                if (isIn(set, number) && (best == NONE || area(number) < area(best))) {
                    best = number;
                }
            }
            return best;
        }

        int lesserSide(int number) {
            return Math.min(side(number, 0), Math.min(side(number, 1), side(number, 2)));
        }

        int greaterSide(int number) {
            return Math.max(side(number, 0), Math.max(side(number, 1), side(number, 2)));
        }

        int middleSide(int number) {
            int sum = side(number, 0) + side(number, 1) + side(number, 2);
            return sum - lesserSide(number) - greaterSide(number);
        }

        void copyFrom(Shelf other) {
            for (int i = 0; i < NUMBERS * COLUMNS; i++) {
                sides[i] = other.sides[i];
            }
            bits = other.bits;
        }
    }

    /** Up to six distances: folds or creases. */
    private static final class Marks {
        private static final int MOST = 6;
        private final int farthest;
        private final int[] distances = new int[MOST];
        private int count;

        Marks(int farthest) {
            this.farthest = farthest;
        }

        int farthest() {
            return farthest;
        }

        int count() {
            return count;
        }

        boolean add(int distance) {
            if (count < 0 || count >= MOST) {
                return false;
            }
            distances[count] = distance;
            count++;
            return true;
        }

        void clear() {
            count = 0;
        }

        /** A mark at x and ROUND itself is not beyond it, so it is seen. */
        boolean areHidden(int x, int round, int underLap) {
            for (int i = 0; i < count && i < MOST; i++) {
                int behind = distances[i] - x;
                if (behind > underLap && behind <= round) {
                    return false;
                }
            }
            return true;
        }

        boolean areOf(int lap, int u, int v) {
            for (int i = 0; i < count && i < MOST; i++) {
                int behind = distances[i] - lap;
                if (behind != 0 && behind != u && behind != u + v && behind != 2 * u + v) {
                    return false;
                }
            }
            return true;
        }

        void copyFrom(Marks other) {
            for (int i = 0; i < MOST; i++) {
                distances[i] = other.distances[i];
            }
            count = other.count;
        }
    }

    /** All that an image keeps. */
    private static final class Goods {
        private final Shelf boxes = new Shelf(3);
        private final Shelf things = new Shelf(3);
        private final Shelf sheets = new Shelf(2);
        private final Marks folds = new Marks(150);
        private final Marks creases = new Marks(90);
        private int lap = 1;
        private int edge = 0;
        private int period = 1;
        private int knot = 10;

        Shelf shelf(int sort) {
            if (sort == 0) {
                return boxes;
            }
            return sort == 1 ? things : sheets;
        }

        Marks marks(int sort) {
            return sort == 0 ? folds : creases;
        }

        int setting(int which) {
            switch (which) {
                case LAP: return lap;
                case EDGE: return edge;
                case PERIOD: return period;
                default: return knot;
            }
        }

        void change(int which, int v) {
            switch (which) {
                case LAP: lap = v; break;
                case EDGE: edge = v; break;
                case PERIOD: period = v; break;
                default: knot = v; break;
            }
        }

        void copyFrom(Goods other) {
            boxes.copyFrom(other.boxes);
            things.copyFrom(other.things);
            sheets.copyFrom(other.sheets);
            folds.copyFrom(other.folds);
            creases.copyFrom(other.creases);
            lap = other.lap;
            edge = other.edge;
            period = other.period;
            knot = other.knot;
        }
    }

    /** The signs of a list, and how far it can be read. */
    private static final class Pad {
        private static final int FIRST_SIGN = 33, LAST_SIGN = 126;
        private static final int MOST = 60;
        private static final int BETWEEN_PARTS = -1;

        private final int[] signs = new int[MOST];
        private int count;
        private int sort = BETWEEN_PARTS;
        private int columns;
        private int greatest;
        private int column;
        private int number;
        private final int[] numbers = new int[COLUMNS];
        private final int[] partsOf = new int[SORTS];

        int count() {
            return count;
        }

        boolean add(int sign) {
            if (count < 0 || count >= MOST) {
                return false;
            }
            signs[count] = sign;
            count++;
            return true;
        }

        void clear() {
            count = 0;
        }

        int parts() {
            return partsOf[0] + partsOf[1] + partsOf[2];
        }

        boolean hasPlaceIn(Goods goods) {
            for (int i = 0; i < SORTS; i++) {
                if (partsOf[i] + goods.shelf(i).count() > NUMBERS) {
                    return false;
                }
            }
            return true;
        }

        /** The fault, or NONE; whole parts are laid, where there are goods to lay them in. */
        int scan(Goods goods) {
            startList();
            for (int i = 0; i < count && i < MOST; i++) {
                if (!accepts(signs[i])) {
                    return i;
                }
                if (signs[i] == ';') {
                    endPart(goods);
                }
            }
            return sort == BETWEEN_PARTS ? NONE : count;
        }

        private void startList() {
            sort = BETWEEN_PARTS;
            for (int i = 0; i < SORTS; i++) {
                partsOf[i] = 0;
            }
        }

        private boolean accepts(int sign) {
            if (sort == BETWEEN_PARTS) {
                return acceptsLetter(sign);
            }
            if (isWithin(sign, '0', '9')) {
                return acceptsDigit(sign - '0');
            }
            boolean isLast = column == columns - 1;
            if (number == 0 || sign != (isLast ? ';' : 'x')) {
                return false;
            }
            keepNumber();
            return true;
        }

        private boolean acceptsLetter(int sign) {
            switch (sign) {
                case 'B': startPart(0, 3, LONGEST_SIDE); return true;
                case 'T': startPart(1, 3, LONGEST_SIDE); return true;
                case 'S': startPart(2, 2, LONGEST_SHEET); return true;
                default: return false;
            }
        }

        private boolean acceptsDigit(int digit) {
            int longer = 10 * number + digit;
            // a 0 ahead of all other digits leaves the number at 0
            if (longer == 0 || longer > greatest) {
                return false;
            }
            number = longer;
            return true;
        }

        private void startPart(int newSort, int newColumns, int newGreatest) {
            sort = newSort;
            columns = newColumns;
            greatest = newGreatest;
            column = 0;
            number = 0;
        }

        private void keepNumber() {
            if (isWithin(column, 0, COLUMNS - 1)) {
                numbers[column] = number;
            }
            column++;
            number = 0;
        }

        private void endPart(Goods goods) {
            if (isWithin(sort, 0, SORTS - 1)) {
                partsOf[sort]++;
                if (goods != null) {
                    goods.shelf(sort).putAtFirstFree(numbers[0], numbers[1], sort == 2 ? 0 : numbers[2]);
                }
            }
            sort = BETWEEN_PARTS;
        }
    }

    /** One solid, measured as it is wrapped. A way is an axis and a turn: TURNS times the axis, and the turn. */
    private static final class Wrap {
        private int a;
        private int b;
        private int c;
        private int lap;
        private int edge;

        void measure(int newA, int newB, int newC, int newLap, int newEdge) {
            a = newA;
            b = newB;
            c = newC;
            lap = newLap;
            edge = newEdge;
        }

        int along(int axis) {
            if (axis == 0) {
                return a;
            }
            return axis == 1 ? b : c;
        }

        int u(int axis) {
            return axis == 0 ? b : a;
        }

        int v(int axis) {
            return axis == 2 ? b : c;
        }

        int girth(int axis) {
            return 2 * (u(axis) + v(axis));
        }

        int round(int axis) {
            return 2 * (u(axis) + v(axis)) + lap;
        }

        int reach(int axis) {
            return along(axis) + Math.min(u(axis), v(axis)) + 2 * edge;
        }

        int paper(int axis) {
            return round(axis) * reach(axis);
        }

        int leastAxis() {
            int best = 0;
            for (int axis = 1; axis < AXES; axis++) {
                if (paper(axis) < paper(best)) {
                    best = axis;
                }
            }
            return best;
        }

        int leastPaper() {
            return paper(leastAxis());
        }

        int lackOn(int axis, int turn, int width, int height) {
            int forRound = turn == 0 ? width : height;
            int forReach = turn == 0 ? height : width;
            return Math.max(0, round(axis) - forRound) + Math.max(0, reach(axis) - forReach);
        }

        /** The way of the least paper by which a sheet does. */
        int wayOnSheet(int width, int height) {
            int best = NONE;
            for (int way = 0; way < AXES * TURNS; way++) {
                int axis = axisOf(way);
                if (lackOn(axis, turnOf(way), width, height) == 0
                        && (best == NONE || paper(axis) < paper(axisOf(best)))) {
                    best = way;
                }
            }
            return best;
        }

        int lengthOff(int way) {
            return turnOf(way) == 0 ? round(axisOf(way)) : reach(axisOf(way));
        }

        int acrossOff(int way) {
            return turnOf(way) == 0 ? reach(axisOf(way)) : round(axisOf(way));
        }

        /** The way of the least length off a roll. */
        int wayOffRoll(int width) {
            int best = NONE;
            for (int way = 0; way < AXES * TURNS; way++) {
                if (acrossOff(way) <= width && (best == NONE || lengthOff(way) < lengthOff(best))) {
                    best = way;
                }
            }
            return best;
        }

        int leastAcross(int length) {
            int best = NONE;
            for (int way = 0; way < AXES * TURNS; way++) {
                int across = acrossOff(way);
                if (lengthOff(way) <= length && across <= LONGEST_SHEET && (best == NONE || across < best)) {
                    best = across;
                }
            }
            return best;
        }

        /** The side of the least square piece that does slant. */
        int squareFor(int axis) {
            if (u(axis) != v(axis)) {
                return NONE;
            }
            int sum = u(axis) + along(axis);
            return rootAbove(2 * sum * sum);
        }

        int leastSquare() {
            int best = NONE;
            for (int axis = 0; axis < AXES; axis++) {
                int square = squareFor(axis);
                if (square != NONE && (best == NONE || square < best)) {
                    best = square;
                }
            }
            return best;
        }

        int cornerSquare(int axis) {
            int first = u(axis) + along(axis);
            int second = v(axis) + along(axis);
            return 4 * (first * first + second * second);
        }
    }

    /** What each sheet gives, side by side round a box: 0, if it can not be used. */
    private static final class Pieces {
        private final int[] gifts = new int[NUMBERS];

        void gather(Shelf sheets, int reach) {
            for (int sheet = 0; sheet < NUMBERS; sheet++) {
                int width = sheets.side(sheet, 0);
                int height = sheets.side(sheet, 1);
                int byWidth = height >= reach ? width : 0;
                int byHeight = width >= reach ? height : 0;
                gifts[sheet] = sheets.has(sheet) ? Math.max(byWidth, byHeight) : 0;
            }
        }

        int fewest(int girth, int lap) {
            int best = NONE;
            for (int set = 1; set < SETS; set++) {
                int count = Integer.bitCount(set);
                if (sumOf(set) >= girth + lap * count && (best == NONE || count < Integer.bitCount(best))) {
                    best = set;
                }
            }
            return best;
        }

        /** A set with a sheet that can not be used is no set at all. */
        private int sumOf(int set) {
            int sum = 0;
            for (int sheet = 0; sheet < NUMBERS; sheet++) {
                if (isIn(set, sheet)) {
                    if (gifts[sheet] == 0) {
                        return 0;
                    }
                    sum += gifts[sheet];
                }
            }
            return sum;
        }
    }

    /**
     * Pieces cut from a sheet by cuts straight through. As pieces may be turned, one measure serves both
     * ways: the least length of a strip so broad from which pieces can be cut.
     */
    private static final class Cutter {
        private static final int TOO_LONG = 1000;
        private static final int NOT_YET = -1;
        private final int[] rounds = new int[NUMBERS];
        private final int[] reaches = new int[NUMBERS];
        private final int[] stripsByWidth = new int[SETS];
        private final int[] stripsByHeight = new int[SETS];
        private int width;
        private int height;

        void start(int newWidth, int newHeight) {
            width = newWidth;
            height = newHeight;
            for (int set = 0; set < SETS; set++) {
                stripsByWidth[set] = NOT_YET;
                stripsByHeight[set] = NOT_YET;
            }
        }

        void want(int box, int round, int reach) {
            if (isNumber(box)) {
                rounds[box] = round;
                reaches[box] = reach;
            }
        }

        int paperOf(int set) {
            int sum = 0;
            for (int box = 0; box < NUMBERS; box++) {
                if (isIn(set, box)) {
                    sum += rounds[box] * reaches[box];
                }
            }
            return sum;
        }

        int greatestOf(int there) {
            for (int size = MOST_CUT; size > 0; size--) {
                for (int set = 1; set < SETS; set++) {
                    if ((set & ~there) == 0 && Integer.bitCount(set) == size && gives(set)) {
                        return set;
                    }
                }
            }
            return 0;
        }

        boolean gives(int set) {
            if (paperOf(set) > width * height) {
                return false;
            }
            if (Integer.bitCount(set) < MOST_CUT) {
                return stripByHeight(set) <= width;
            }
            // four may be parted in two and two, which a strip does not try
            for (int part = 1; part < set && part < SETS; part++) {
                if ((part & ~set) == 0 && givesBoth(part, set & ~part)) {
                    return true;
                }
            }
            return false;
        }

        private boolean givesBoth(int part, int rest) {
            // the other order of the two is the same parting
            if (part > rest) {
                return false;
            }
            return stripByHeight(part) + stripByHeight(rest) <= width
                    || stripByWidth(part) + stripByWidth(rest) <= height;
        }

        private int stripByHeight(int set) {
            if (!isWithin(set, 0, SETS - 1)) {
                return TOO_LONG;
            }
            if (stripsByHeight[set] == NOT_YET) {
                stripsByHeight[set] = strip(set, height);
            }
            return stripsByHeight[set];
        }

        private int stripByWidth(int set) {
            if (!isWithin(set, 0, SETS - 1)) {
                return TOO_LONG;
            }
            if (stripsByWidth[set] == NOT_YET) {
                stripsByWidth[set] = strip(set, width);
            }
            return stripsByWidth[set];
        }

        /** For three pieces at most: of so few, the first cut always parts a single one from the rest. */
        private int strip(int set, int across) {
            int count = Integer.bitCount(set);
            if (count == 0) {
                return 0;
            }
            if (count >= MOST_CUT) {
                return TOO_LONG;
            }
            int best = TOO_LONG;
            for (int box = 0; box < NUMBERS; box++) {
                if (isIn(set, box)) {
                    best = Math.min(best, stripParted(box, set & ~(1 << box), across));
                    if (count == 2) {
                        // of two, either is the single one
                        return best;
                    }
                }
            }
            return best;
        }

        private int stripParted(int box, int rest, int across) {
            if (box < 0 || box >= NUMBERS) {
                return TOO_LONG;
            }
            int round = rounds[box];
            int reach = reaches[box];
            int best = TOO_LONG;
            if (round <= across) {
                best = Math.min(best, Math.max(reach, strip(rest, across - round)));
            }
            if (reach <= across) {
                best = Math.min(best, Math.max(round, strip(rest, across - reach)));
            }
            if (rest != 0) {
                best = Math.min(best, strip(1 << box, across) + strip(rest, across));
            }
            return best;
        }
    }

    /** The first order of boxes by which most find a sheet. */
    private static final class Order {
        private final int[] suiting = new int[NUMBERS];
        private final int[] trial = new int[NUMBERS];
        private final int[] best = new int[NUMBERS];
        private int size;
        private int bestWrapped;

        void suit(int box, int sheetBits) {
            if (isNumber(box)) {
                suiting[box] = sheetBits;
            }
        }

        void search(int set, Shelf sheets) {
            size = Integer.bitCount(set);
            bestWrapped = -1;
            extend(sheets, 0, set, sheets.bits(), 0);
        }

        int wrapped() {
            return bestWrapped;
        }

        int boxAt(int i) {
            return isNumber(i) && i < size ? best[i] : NONE;
        }

        /** Orders come first by boxes, so a later one must wrap more to be kept. */
        private void extend(Shelf sheets, int place, int boxesLeft, int sheetsLeft, int wrapped) {
            int hope = Math.min(Integer.bitCount(boxesLeft), Integer.bitCount(sheetsLeft));
            if (wrapped + hope <= bestWrapped) {
                return;
            }
            if (boxesLeft == 0 || !isNumber(place)) {
                keep(wrapped);
                return;
            }
            for (int box = 0; box < NUMBERS; box++) {
                if (isIn(boxesLeft, box)) {
                    trial[place] = box;
                    int sheet = sheets.leastAreaOf(suiting[box] & sheetsLeft);
                    int rest = boxesLeft & ~(1 << box);
                    if (sheet == NONE) {
                        extend(sheets, place + 1, rest, sheetsLeft, wrapped);
                    } else {
                        extend(sheets, place + 1, rest, sheetsLeft & ~(1 << sheet), wrapped + 1);
                    }
                }
            }
        }

        private void keep(int wrapped) {
            bestWrapped = wrapped;
            for (int i = 0; i < NUMBERS; i++) {
                best[i] = trial[i];
            }
        }
    }

    /** Things in boxes of their own, by least paper in all. */
    private static final class Pairing {
        private final int[] prices = new int[NUMBERS];
        private final int[] allowed = new int[NUMBERS];
        private final int[] trial = new int[NUMBERS];
        private final int[] best = new int[NUMBERS];
        private int bestPaper;

        void price(int box, int paper) {
            if (isNumber(box)) {
                prices[box] = paper;
            }
        }

        void allow(int thing, int boxBits) {
            if (isNumber(thing)) {
                allowed[thing] = boxBits;
            }
        }

        void search(int set, int boxes) {
            bestPaper = NONE;
            extend(0, set, boxes, 0);
        }

        int paper() {
            return bestPaper;
        }

        int boxOf(int thing) {
            return bestPaper != NONE && isNumber(thing) ? best[thing] : NONE;
        }

        /** Pairings come first by boxes, so a later one must take less to be kept. */
        private void extend(int thing, int set, int boxesLeft, int paper) {
            if (bestPaper != NONE && paper >= bestPaper) {
                return;
            }
            if (!isNumber(thing)) {
                keep(paper);
                return;
            }
            if (!isIn(set, thing)) {
                extend(thing + 1, set, boxesLeft, paper);
                return;
            }
            for (int box = 0; box < NUMBERS; box++) {
                if (isIn(boxesLeft & allowed[thing], box)) {
                    trial[thing] = box;
                    extend(thing + 1, set, boxesLeft & ~(1 << box), paper + prices[box]);
                }
            }
        }

        private void keep(int paper) {
            bestPaper = paper;
            for (int i = 0; i < NUMBERS; i++) {
                best[i] = trial[i];
            }
        }
    }
}
