import java.util.ArrayList;
import java.util.Arrays;
import java.util.List;
import java.util.Random;
import java.util.regex.Matcher;
import java.util.regex.Pattern;

/** Runs of drawn calls, each answer held against a plain model that tries out everything. */
public final class AgainstPlainTest {
    private static final int UNKNOWN = -1, OUTSIDE = -2, STATE = -3, FULL = -4, NO = -5, NONE = -6;
    private static final int RUNS = 600;
    private static final int CALLS = 512;
    private static final int LONGEST_LIST = 40;
    private static int wrong = 0;
    private static int spent = 0;

    public static void main(String[] args) {
        int[] answeredWell = new int[40];
        for (int run = 0; run < RUNS && wrong < 20; run++) {
            oneRun(run, answeredWell);
        }
        for (int call = 0; call < 40; call++) {
            if (wrong == 0 && answeredWell[call] < 20) {
                wrong++;
                System.out.println("call " + call + " was hardly ever answered by 0 or more: " + answeredWell[call]);
            }
        }
        System.out.println(wrong == 0 ? "all runs are as the plain model's" : wrong + " answers are wrong");
        if (wrong != 0) {
            System.exit(1);
        }
    }

    private static void oneRun(int run, int[] answeredWell) {
        Random random = new Random(run);
        PaperBoxes x = new PaperBoxes();
        Plain plain = new Plain();
        int kind = run % 4;
        spent = 0;
        // an object is good for so many calls, and one step may say a whole list
        for (int i = 0; spent + LONGEST_LIST + 4 < CALLS; i++) {
            int call = i < 25 ? random.nextInt(7) : random.nextInt(40);
            int[] a = new int[6];
            for (int k = 0; k < 6; k++) {
                a[k] = argument(random, call, k, kind);
            }
            int got = ask(x, call, a);
            int want = plain.ask(call, a);
            if (got >= 0) {
                answeredWell[call]++;
            }
            if (got != want) {
                wrong++;
                System.out.println("run " + run + " call " + i + ": " + call + Arrays.toString(a)
                        + " answered " + got + ", due is " + want);
                return;
            }
        }
    }

    /** What each argument is: n a number, s a side, w a width, x an axis, ? a what, and so on. */
    private static final String[] FORMS = {
        "nsss", "nsss", "nww", "tn", "qv", "c", "", "", "", "nx3", "n?", "nn3", "n", "nnx?", "nx", "nn", "n",
        "nw3", "nwpwp?", "nl", "nx?", "Bn", "n3", "Bi", "nx", "n", "nx", "nx?", "nn", "n", "Ti", "?d", "?",
        "nxn?", "r?", "yzn3", "?", "?", "o", ""};

    private static int argument(Random random, int call, int k, int kind) {
        String form = FORMS[call];
        if (k >= form.length()) {
            return 0;
        }
        int luck = random.nextInt(200);
        if (luck == 0) {
            return random.nextInt();
        }
        if (luck == 1) {
            return random.nextBoolean() ? Integer.MAX_VALUE : Integer.MIN_VALUE;
        }
        if (luck < 4) {
            return -1 - random.nextInt(3);
        }
        int side = kind == 0 ? 4 : kind == 1 ? 20 : 10;
        switch (form.charAt(k)) {
            case 'n': return luck < 8 ? 6 + random.nextInt(3) : random.nextInt(6);
            case 's': return luck < 8 ? 21 * random.nextInt(2) : 1 + random.nextInt(side);
            case 'w': return luck < 8 ? 151 * random.nextInt(2) : 1 + random.nextInt(Math.min(150, 8 * side));
            case 'x': return luck < 8 ? 3 : random.nextInt(3);
            case '?': return luck < 8 ? 2 : random.nextInt(2);
            case '3': return luck < 8 ? 3 : random.nextInt(3);
            case 't': return luck < 8 ? 3 : random.nextInt(3);
            case 'q': return luck < 8 ? 4 : random.nextInt(4);
            case 'v': return random.nextInt(luck < 60 ? 62 : 6);
            case 'c': return luck < 8 ? 30 + random.nextInt(100) : 33 + random.nextInt(94);
            case 'p': return random.nextInt(101);
            case 'l': return random.nextInt(luck < 50 ? 302 : 60);
            case 'B': return random.nextInt(luck < 10 ? 70 : 64);
            case 'T': return random.nextInt(luck < 10 ? 70 : 64);
            case 'i': return random.nextInt(8) - 1;
            case 'd': return random.nextInt(luck < 50 ? 153 : 30);
            case 'r': return random.nextInt(3) == 0 ? 0 : random.nextInt(91);
            case 'y': return random.nextInt(10001);
            case 'z': return random.nextInt(101);
            default: return luck < 100 ? random.nextInt(11) : 100 * random.nextInt(8) + random.nextInt(31);
        }
    }

    /** Call 5 says a whole drawn list; the others are one call each. */
    private static int ask(PaperBoxes x, int call, int[] a) {
        spent += call == 39 ? 3 : 1;
        switch (call) {
            case 0: return x.box(a[0], a[1], a[2], a[3]);
            case 1: return x.thing(a[0], a[1], a[2], a[3]);
            case 2: return x.sheet(a[0], a[1], a[2]);
            case 3: return x.drop(a[0], a[1]);
            case 4: return x.set(a[0], a[1]);
            case 5: return sayList(x, a[0]);
            case 6: return x.wipe();
            case 7: return x.fault();
            case 8: return x.lay();
            case 9: return x.need(a[0], a[1], a[2]);
            case 10: return x.least(a[0], a[1]);
            case 11: return x.does(a[0], a[1], a[2]);
            case 12: return x.taken(a[0]);
            case 13: return x.shortBy(a[0], a[1], a[2], a[3]);
            case 14: return x.slant(a[0], a[1]);
            case 15: return x.slants(a[0], a[1]);
            case 16: return x.saved(a[0]);
            case 17: return x.roll(a[0], a[1], a[2]);
            case 18: return x.cheaper(a[0], a[1], a[2], a[3], a[4], a[5]);
            case 19: return x.narrow(a[0], a[1]);
            case 20: return x.pieces(a[0], a[1], a[2]);
            case 21: return x.cut(thereOf(x, 1, a[0]), a[1]);
            case 22: return x.most(a[0], a[1]);
            case 23: return x.usedUp(thereOf(x, 1, a[0]), a[1]);
            case 24: return x.pleat(a[0], a[1]);
            case 25: return x.match(a[0]);
            case 26: return x.ribbon(a[0], a[1]);
            case 27: return x.corners(a[0], a[1], a[2]);
            case 28: return x.fits(a[0], a[1]);
            case 29: return x.tight(a[0]);
            case 30: return x.paired(thereOf(x, 2, a[0]), a[1]);
            case 31: return x.mark(a[0], a[1]);
            case 32: return x.iron(a[0]);
            case 33: return x.hidden(a[0], a[1], a[2], a[3]);
            case 34: return x.undone(a[0], a[1]);
            case 35: return x.year(a[0], a[1], a[2], a[3]);
            case 36: return x.image(a[0]);
            case 37: return x.restore(a[0]);
            case 38: return x.told(a[0]);
            default: return (x.told(1) * 64 + x.told(2)) * 64 + x.told(3);
        }
    }

    /** Most sets that are drawn have some that are not there, so an even draw is cut to those that are. */
    private static int thereOf(PaperBoxes x, int what, int set) {
        spent++;
        return set % 8 == 7 ? set : set & x.told(what);
    }

    private static String drawnList(int seed) {
        Random random = new Random(seed);
        StringBuilder list = new StringBuilder();
        int parts = random.nextInt(5);
        for (int i = 0; i < parts; i++) {
            int sort = random.nextInt(3);
            list.append("BTS".charAt(sort));
            int numbers = sort == 2 ? 2 : 3;
            for (int k = 0; k < numbers; k++) {
                int most = sort == 2 ? 150 : 20;
                list.append(1 + random.nextInt(random.nextInt(20) == 0 ? most + 10 : most));
                list.append(k == numbers - 1 ? ';' : 'x');
            }
        }
        if (random.nextInt(5) == 0 && list.length() > 0) {
            list.setCharAt(random.nextInt(list.length()), "BTSx;0123456789~"
                    .charAt(random.nextInt(16)));
        }
        if (random.nextInt(8) == 0) {
            list.setLength(random.nextInt(list.length() + 1));
        }
        return list.toString();
    }

    private static int sayList(PaperBoxes x, int sign) {
        if (sign < 33 || sign > 126) {
            return x.say(sign);
        }
        spent++;
        if (x.told(0) > 0 && sign % 3 != 0) {
            return x.say(sign);
        }
        String list = drawnList(sign * 31 + x.told(1) + x.told(2) * 64 + x.told(3) * 4096);
        spent += 3 + list.length();
        int answer = 0;
        for (int i = 0; i < list.length(); i++) {
            answer = x.say(list.charAt(i));
        }
        return answer;
    }

    /** The document once more, with lists for rows and trials for thought. */
    private static final class Plain {
        private static final Pattern LIST = Pattern.compile(
                "(?:[BT]N(?:xN){2};|SMxM;)*"
                .replace("N", "(?:[1-9]|1[0-9]|20)")
                .replace("M", "(?:[1-9][0-9]?|1[0-4][0-9]|150)"));

        private static final class World {
            int[][] boxes = new int[6][], things = new int[6][], sheets = new int[6][];
            int[] settings = {1, 0, 1, 10};
            List<List<Integer>> marks = List.of(new ArrayList<>(), new ArrayList<>());

            World copy() {
                World other = new World();
                other.boxes = boxes.clone();
                other.things = things.clone();
                other.sheets = sheets.clone();
                other.settings = settings.clone();
                other.marks.get(0).addAll(marks.get(0));
                other.marks.get(1).addAll(marks.get(1));
                return other;
            }
        }

        private World w = new World();
        private final World[] images = new World[2];
        private String pad = "";

        int ask(int call, int[] a) {
            switch (call) {
                case 0: return put(w.boxes, a[0], Arrays.copyOfRange(a, 1, 4), 20);
                case 1: return put(w.things, a[0], Arrays.copyOfRange(a, 1, 4), 20);
                case 2: return put(w.sheets, a[0], Arrays.copyOfRange(a, 1, 3), 150);
                case 3: return drop(a[0], a[1]);
                case 4: return set(a[0], a[1]);
                case 5: return sayList(a[0]);
                case 6: int were = pad.length(); pad = ""; return were;
                case 7: return fault();
                case 8: return lay();
                case 9: return need(a[0], a[1], a[2]);
                case 10: return least(a[0], a[1]);
                case 11: return does(a[0], a[1], a[2]);
                case 12: return taken(a[0]);
                case 13: return shortBy(a[0], a[1], a[2], a[3]);
                case 14: return slant(a[0], a[1]);
                case 15: return slants(a[0], a[1]);
                case 16: return saved(a[0]);
                case 17: return roll(a[0], a[1], a[2]);
                case 18: return cheaper(a);
                case 19: return narrow(a[0], a[1]);
                case 20: return pieces(a[0], a[1], a[2]);
                case 21: return cut(thereOf(w.boxes, a[0]), a[1]);
                case 22: return most(a[0], a[1]);
                case 23: return usedUp(thereOf(w.boxes, a[0]), a[1]);
                case 24: return no(w.boxes, a[0]) || axis(a[1]) ? UNKNOWN : pleat(w.boxes[a[0]], a[1]);
                case 25: return match(a[0]);
                case 26: return ribbon(a[0], a[1]);
                case 27: return corners(a[0], a[1], a[2]);
                case 28: return no(w.things, a[0]) || no(w.boxes, a[1]) ? UNKNOWN : fits(a[0], a[1]) ? 1 : 0;
                case 29: return tight(a[0]);
                case 30: return paired(thereOf(w.things, a[0]), a[1]);
                case 31: return mark(a[0], a[1]);
                case 32: return iron(a[0]);
                case 33: return hidden(a[0], a[1], a[2], a[3]);
                case 34: return undone(a[0], a[1]);
                case 35: return year(a[0], a[1], a[2], a[3]);
                case 36: return image(a[0]);
                case 37: return restore(a[0]);
                case 38: return told(a[0]);
                default: return (bits(w.boxes) * 64 + bits(w.things)) * 64 + bits(w.sheets);
            }
        }

        private static boolean no(int[][] rows, int n) {
            return n < 0 || n > 5 || rows[n] == null;
        }

        private static boolean axis(int axis) {
            return axis < 0 || axis > 2;
        }

        private static boolean out(int v, int from, int to) {
            return v < from || v > to;
        }

        private static int bits(int[][] rows) {
            int bits = 0;
            for (int i = 0; i < 6; i++) {
                bits += rows[i] == null ? 0 : 1 << i;
            }
            return bits;
        }

        private static int thereOf(int[][] rows, int set) {
            return set % 8 == 7 ? set : set & bits(rows);
        }

        private static int put(int[][] rows, int n, int[] sides, int most) {
            if (out(n, 0, 5)) {
                return UNKNOWN;
            }
            for (int side : sides) {
                if (out(side, 1, most)) {
                    return OUTSIDE;
                }
            }
            rows[n] = sides;
            return Integer.bitCount(bits(rows));
        }

        private int drop(int sort, int n) {
            if (out(sort, 0, 2)) {
                return OUTSIDE;
            }
            int[][] rows = sort == 0 ? w.boxes : sort == 1 ? w.things : w.sheets;
            if (no(rows, n)) {
                return UNKNOWN;
            }
            rows[n] = null;
            return Integer.bitCount(bits(rows));
        }

        private int set(int which, int v) {
            int[] least = {0, 0, 1, 0};
            int[] most = {9, 9, 40, 60};
            if (out(which, 0, 3) || out(v, least[which], most[which])) {
                return OUTSIDE;
            }
            int was = w.settings[which];
            w.settings[which] = v;
            return was;
        }

        private int say(int sign) {
            if (out(sign, 33, 126)) {
                return OUTSIDE;
            }
            if (pad.length() == 60) {
                return FULL;
            }
            pad += (char) sign;
            return pad.length();
        }

        private int sayList(int sign) {
            if (out(sign, 33, 126) || pad.length() > 0 && sign % 3 != 0) {
                return say(sign);
            }
            String list = drawnList(sign * 31 + bits(w.boxes) + bits(w.things) * 64 + bits(w.sheets) * 4096);
            int answer = 0;
            for (char c : list.toCharArray()) {
                answer = say(c);
            }
            return answer;
        }

        private int fault() {
            for (int length = 1; length <= pad.length(); length++) {
                Matcher matcher = LIST.matcher(pad.substring(0, length));
                if (!matcher.matches() && !matcher.hitEnd()) {
                    return length - 1;
                }
            }
            return LIST.matcher(pad).matches() ? NONE : pad.length();
        }

        private int lay() {
            if (fault() != NONE) {
                return NO;
            }
            World after = w.copy();
            String[] parts = pad.isEmpty() ? new String[0] : pad.split(";");
            for (String part : parts) {
                char letter = part.charAt(0);
                int[][] rows = letter == 'B' ? after.boxes : letter == 'T' ? after.things : after.sheets;
                int free = Arrays.asList(rows).indexOf(null);
                if (free < 0) {
                    return FULL;
                }
                rows[free] = Arrays.stream(part.substring(1).split("x")).mapToInt(Integer::parseInt).toArray();
            }
            w = after;
            pad = "";
            return parts.length;
        }

        private static int[] others(int axis) {
            return axis == 0 ? new int[] {1, 2} : axis == 1 ? new int[] {0, 2} : new int[] {0, 1};
        }

        private static int u(int[] box, int axis) {
            return box[others(axis)[0]];
        }

        private static int v(int[] box, int axis) {
            return box[others(axis)[1]];
        }

        private int round(int[] box, int axis) {
            return 2 * (u(box, axis) + v(box, axis)) + w.settings[0];
        }

        private int along(int[] box, int axis) {
            return box[axis] + Math.min(u(box, axis), v(box, axis)) + 2 * w.settings[1];
        }

        private int paper(int[] box, int axis) {
            return round(box, axis) * along(box, axis);
        }

        private int leastAxis(int[] box) {
            int p = Math.min(paper(box, 0), Math.min(paper(box, 1), paper(box, 2)));
            return p == paper(box, 0) ? 0 : p == paper(box, 1) ? 1 : 2;
        }

        private int need(int box, int axis, int what) {
            if (no(w.boxes, box) || axis(axis)) {
                return UNKNOWN;
            }
            int[] b = w.boxes[box];
            return out(what, 0, 2) ? OUTSIDE : new int[] {round(b, axis), along(b, axis), paper(b, axis)}[what];
        }

        private int least(int box, int what) {
            if (no(w.boxes, box)) {
                return UNKNOWN;
            }
            int axis = leastAxis(w.boxes[box]);
            return out(what, 0, 1) ? OUTSIDE : what == 0 ? axis : paper(w.boxes[box], axis);
        }

        /** Axis, turn and what is left, or null. */
        private int[] how(int[] box, int[] sheet) {
            int[] found = null;
            for (int axis = 2; axis >= 0; axis--) {
                for (int turn = 1; turn >= 0; turn--) {
                    int left = sheet[0] * sheet[1] - paper(box, axis);
                    if (round(box, axis) <= sheet[turn] && along(box, axis) <= sheet[1 - turn]
                            && (found == null || left >= found[2])) {
                        found = new int[] {axis, turn, left};
                    }
                }
            }
            return found;
        }

        private int does(int box, int sheet, int what) {
            if (no(w.boxes, box) || no(w.sheets, sheet)) {
                return UNKNOWN;
            }
            if (out(what, 0, 2)) {
                return OUTSIDE;
            }
            int[] found = how(w.boxes[box], w.sheets[sheet]);
            return found == null ? NONE : found[what];
        }

        private int takenOf(int box, int sheets) {
            int best = NONE;
            for (int i = 5; i >= 0; i--) {
                if ((sheets >> i & 1) == 1 && how(w.boxes[box], w.sheets[i]) != null
                        && (best == NONE || area(i) <= area(best))) {
                    best = i;
                }
            }
            return best;
        }

        private int area(int sheet) {
            return w.sheets[sheet][0] * w.sheets[sheet][1];
        }

        private int taken(int box) {
            return no(w.boxes, box) ? UNKNOWN : takenOf(box, bits(w.sheets));
        }

        private int shortBy(int box, int sheet, int axis, int turn) {
            if (no(w.boxes, box) || no(w.sheets, sheet) || axis(axis)) {
                return UNKNOWN;
            }
            if (out(turn, 0, 1)) {
                return OUTSIDE;
            }
            int more = round(w.boxes[box], axis) - w.sheets[sheet][turn];
            int longer = along(w.boxes[box], axis) - w.sheets[sheet][1 - turn];
            return (more > 0 ? more : 0) + (longer > 0 ? longer : 0);
        }

        private static int q(int[] box, int axis) {
            if (u(box, axis) != v(box, axis)) {
                return NONE;
            }
            int sum = u(box, axis) + box[axis];
            int q = 0;
            while (q * q < 2 * sum * sum) {
                q++;
            }
            return q;
        }

        private int slant(int box, int axis) {
            return no(w.boxes, box) || axis(axis) ? UNKNOWN : q(w.boxes[box], axis);
        }

        private int slants(int box, int sheet) {
            if (no(w.boxes, box) || no(w.sheets, sheet)) {
                return UNKNOWN;
            }
            for (int axis = 0; axis < 3; axis++) {
                int q = q(w.boxes[box], axis);
                if (q != NONE && w.sheets[sheet][0] >= q && w.sheets[sheet][1] >= q) {
                    return 1;
                }
            }
            return 0;
        }

        private int saved(int box) {
            if (no(w.boxes, box)) {
                return UNKNOWN;
            }
            int most = NONE;
            for (int axis = 0; axis < 3; axis++) {
                int q = q(w.boxes[box], axis);
                if (q != NONE) {
                    most = Math.max(most, 100000 + least(box, 1) - q * q);
                }
            }
            return most;
        }

        private int roll(int box, int width, int what) {
            if (no(w.boxes, box)) {
                return UNKNOWN;
            }
            if (out(width, 1, 150) || out(what, 0, 2)) {
                return OUTSIDE;
            }
            for (int length = 1; length <= 300; length++) {
                for (int axis = 0; axis < 3; axis++) {
                    int round = round(w.boxes[box], axis);
                    int along = along(w.boxes[box], axis);
                    if (round == length && along <= width) {
                        return new int[] {length, axis, 0}[what];
                    }
                    if (along == length && round <= width) {
                        return new int[] {length, axis, 1}[what];
                    }
                }
            }
            return NONE;
        }

        private int cheaper(int[] a) {
            if (no(w.boxes, a[0])) {
                return UNKNOWN;
            }
            if (out(a[1], 1, 150) || out(a[3], 1, 150) || out(a[2], 0, 99) || out(a[4], 0, 99) || out(a[5], 0, 1)) {
                return OUTSIDE;
            }
            int one = roll(a[0], a[1], 0);
            int other = roll(a[0], a[3], 0);
            if (one == NONE && other == NONE) {
                return NONE;
            }
            int onePence = one == NONE ? 1000000 : one * a[2];
            int otherPence = other == NONE ? 1000000 : other * a[4];
            return a[5] == 1 ? Math.min(onePence, otherPence) : onePence <= otherPence ? 0 : 1;
        }

        private int narrow(int box, int length) {
            if (no(w.boxes, box)) {
                return UNKNOWN;
            }
            if (out(length, 1, 300)) {
                return OUTSIDE;
            }
            for (int width = 1; width <= 150; width++) {
                int needed = roll(box, width, 0);
                if (needed != NONE && needed <= length) {
                    return width;
                }
            }
            return NONE;
        }

        private int pieces(int box, int axis, int what) {
            if (no(w.boxes, box) || axis(axis)) {
                return UNKNOWN;
            }
            if (out(what, 0, 1)) {
                return OUTSIDE;
            }
            int along = along(w.boxes[box], axis);
            int girth = 2 * (u(w.boxes[box], axis) + v(w.boxes[box], axis));
            for (int size = 1; size <= 6; size++) {
                for (int set = 1; set < 64; set++) {
                    if (Integer.bitCount(set) == size && (set & ~bits(w.sheets)) == 0
                            && given(set, along) >= girth + size * w.settings[0]) {
                        return what == 0 ? size : set;
                    }
                }
            }
            return NONE;
        }

        private int given(int set, int along) {
            int sum = 0;
            for (int i = 0; i < 6; i++) {
                if ((set >> i & 1) == 1) {
                    int lesser = Math.min(w.sheets[i][0], w.sheets[i][1]);
                    int greater = Math.max(w.sheets[i][0], w.sheets[i][1]);
                    if (greater < along) {
                        return -1;
                    }
                    sum += lesser >= along ? greater : lesser;
                }
            }
            return sum;
        }

        /** least[set][width]: the least height from which a set can be cut, by trying each place of a cut. */
        private int[][] heights(int width) {
            int[][] least = new int[64][width + 1];
            for (int set = 1; set < 64; set++) {
                Arrays.fill(least[set], 100000);
                if ((set & ~bits(w.boxes)) != 0 || Integer.bitCount(set) > 4) {
                    continue;
                }
                for (int x = 0; x <= width; x++) {
                    least[set][x] = height(least, set, x);
                }
            }
            return least;
        }

        private int height(int[][] least, int set, int x) {
            if (Integer.bitCount(set) == 1) {
                int[] box = w.boxes[Integer.numberOfTrailingZeros(set)];
                int axis = leastAxis(box);
                int one = round(box, axis) <= x ? along(box, axis) : 100000;
                int other = along(box, axis) <= x ? round(box, axis) : 100000;
                return Math.min(one, other);
            }
            int best = 100000;
            for (int part = 1; part < set; part++) {
                if ((part & ~set) != 0) {
                    continue;
                }
                best = Math.min(best, least[part][x] + least[set - part][x]);
                for (int at = 0; at <= x; at++) {
                    best = Math.min(best, Math.max(least[part][at], least[set - part][x - at]));
                }
            }
            return best;
        }

        private int cut(int set, int sheet) {
            if (no(w.sheets, sheet)) {
                return UNKNOWN;
            }
            if ((set & ~bits(w.boxes)) != 0) {
                return OUTSIDE;
            }
            if (Integer.bitCount(set) > 4) {
                return FULL;
            }
            return heights(w.sheets[sheet][0])[set][w.sheets[sheet][0]] <= w.sheets[sheet][1] ? 1 : 0;
        }

        private int most(int sheet, int what) {
            if (no(w.sheets, sheet)) {
                return UNKNOWN;
            }
            if (out(what, 0, 2)) {
                return OUTSIDE;
            }
            int width = w.sheets[sheet][0];
            int[][] least = heights(width);
            int best = 0;
            for (int set = 1; set < 64; set++) {
                if (least[set][width] <= w.sheets[sheet][1] && Integer.bitCount(set) > Integer.bitCount(best)) {
                    best = set;
                }
            }
            int left = area(sheet);
            for (int i = 0; i < 6; i++) {
                left -= (best >> i & 1) == 1 ? least(i, 1) : 0;
            }
            return what == 0 ? Integer.bitCount(best) : what == 1 ? best : left;
        }

        private static void orders(List<Integer> so, int rest, List<List<Integer>> all) {
            if (rest == 0) {
                all.add(new ArrayList<>(so));
            }
            for (int i = 0; i < 6; i++) {
                if ((rest >> i & 1) == 1) {
                    so.add(i);
                    orders(so, rest - (1 << i), all);
                    so.remove(so.size() - 1);
                }
            }
        }

        private int usedUp(int set, int i) {
            if ((set & ~bits(w.boxes)) != 0) {
                return OUTSIDE;
            }
            List<List<Integer>> all = new ArrayList<>();
            orders(new ArrayList<>(), set, all);
            int most = -1;
            List<Integer> best = null;
            for (List<Integer> order : all) {
                int left = bits(w.sheets);
                int wrapped = 0;
                for (int box : order) {
                    int sheet = takenOf(box, left);
                    if (sheet != NONE) {
                        left -= 1 << sheet;
                        wrapped++;
                    }
                }
                if (wrapped > most) {
                    most = wrapped;
                    best = order;
                }
            }
            return i == -1 ? most : out(i, 0, best.size() - 1) ? NONE : best.get(i);
        }

        private int pleat(int[] box, int axis) {
            int more = 0;
            while ((2 * (u(box, axis) + v(box, axis)) + more) % w.settings[2] != 0) {
                more++;
            }
            return more;
        }

        private int match(int box) {
            if (no(w.boxes, box)) {
                return UNKNOWN;
            }
            int[] b = w.boxes[box];
            return (pleat(b, 0) == 0 ? 1 : 0) + (pleat(b, 1) == 0 ? 2 : 0) + (pleat(b, 2) == 0 ? 4 : 0);
        }

        private int ribbon(int box, int axis) {
            if (no(w.boxes, box) || axis(axis)) {
                return UNKNOWN;
            }
            int[] b = w.boxes[box];
            return 2 * (u(b, axis) + v(b, axis) + 2 * b[axis]) + w.settings[3];
        }

        private int corners(int box, int axis, int what) {
            if (no(w.boxes, box) || axis(axis)) {
                return UNKNOWN;
            }
            if (out(what, 0, 1)) {
                return OUTSIDE;
            }
            int[] b = w.boxes[box];
            long one = u(b, axis) + b[axis];
            long other = v(b, axis) + b[axis];
            long square = 4 * (one * one + other * other);
            long length = 0;
            if (what == 0) {
                while (length * length < square) {
                    length++;
                }
                return (int) length + w.settings[3];
            }
            while ((length + 1) * (length + 1) <= 10000 * square) {
                length++;
            }
            return (int) length;
        }

        private boolean fits(int thing, int box) {
            int[] t = w.things[thing];
            int[] b = w.boxes[box];
            int[][] all = {{0, 1, 2}, {0, 2, 1}, {1, 0, 2}, {1, 2, 0}, {2, 0, 1}, {2, 1, 0}};
            for (int[] to : all) {
                if (t[0] <= b[to[0]] && t[1] <= b[to[1]] && t[2] <= b[to[2]]) {
                    return true;
                }
            }
            return false;
        }

        private int tight(int thing) {
            if (no(w.things, thing)) {
                return UNKNOWN;
            }
            int best = NONE;
            for (int box = 5; box >= 0; box--) {
                if (w.boxes[box] != null && fits(thing, box) && (best == NONE || least(box, 1) <= least(best, 1))) {
                    best = box;
                }
            }
            return best;
        }

        private int paired(int set, int thing) {
            if ((set & ~bits(w.things)) != 0) {
                return OUTSIDE;
            }
            if (thing != -1 && (out(thing, 0, 5) || (set >> thing & 1) == 0)) {
                return UNKNOWN;
            }
            List<Integer> things = new ArrayList<>();
            for (int i = 0; i < 6; i++) {
                if ((set >> i & 1) == 1) {
                    things.add(i);
                }
            }
            int leastPaper = Integer.MAX_VALUE;
            List<Integer> best = null;
            for (int boxes = 0; boxes < 64; boxes++) {
                if ((boxes & ~bits(w.boxes)) != 0 || Integer.bitCount(boxes) != things.size()) {
                    continue;
                }
                List<List<Integer>> all = new ArrayList<>();
                orders(new ArrayList<>(), boxes, all);
                for (List<Integer> order : all) {
                    int sum = 0;
                    boolean all6 = true;
                    for (int i = 0; i < order.size(); i++) {
                        sum += least(order.get(i), 1);
                        all6 &= fits(things.get(i), order.get(i));
                    }
                    if (all6 && (sum < leastPaper || sum == leastPaper
                            && order.toString().compareTo(best.toString()) < 0)) {
                        leastPaper = sum;
                        best = order;
                    }
                }
            }
            if (best == null) {
                return NONE;
            }
            return thing == -1 ? leastPaper : best.get(things.indexOf(thing));
        }

        private int mark(int sort, int distance) {
            if (out(sort, 0, 1) || out(distance, 0, sort == 0 ? 150 : 90)) {
                return OUTSIDE;
            }
            if (w.marks.get(sort).size() == 6) {
                return FULL;
            }
            w.marks.get(sort).add(distance);
            return w.marks.get(sort).size();
        }

        private int iron(int sort) {
            if (out(sort, 0, 1)) {
                return OUTSIDE;
            }
            int were = w.marks.get(sort).size();
            w.marks.get(sort).clear();
            return were;
        }

        private int hidden(int box, int axis, int sheet, int what) {
            if (no(w.boxes, box) || axis(axis) || no(w.sheets, sheet)) {
                return UNKNOWN;
            }
            if (out(what, 0, 1)) {
                return OUTSIDE;
            }
            int round = round(w.boxes[box], axis);
            List<Integer> found = new ArrayList<>();
            for (int x = 0; x + round <= w.sheets[sheet][0]; x++) {
                boolean all = true;
                for (int fold : w.marks.get(0)) {
                    all &= fold < x || fold > x + round || fold - x <= w.settings[0] + u(w.boxes[box], axis);
                }
                if (all) {
                    found.add(x);
                }
            }
            return what == 0 ? found.size() : found.isEmpty() ? NONE : found.get(0);
        }

        private int undone(int r, int what) {
            if (out(r, 0, 89) || out(what, 0, 1)) {
                return OUTSIDE;
            }
            int lap = w.settings[0];
            List<Integer> found = new ArrayList<>();
            for (int u = 1; u <= 20; u++) {
                for (int v = 1; v <= 20; v++) {
                    List<Integer> of = List.of(lap, lap + u, lap + u + v, lap + u + v + u);
                    if (of.containsAll(w.marks.get(1)) && (r == 0 || r == lap + u + v + u + v)) {
                        found.add(100 * u + v);
                    }
                }
            }
            return what == 0 ? found.size() : found.isEmpty() ? NONE : found.get(0);
        }

        private int year(int seed, int n, int sheet, int what) {
            if (no(w.sheets, sheet)) {
                return UNKNOWN;
            }
            if (out(seed, 0, 9999) || out(n, 1, 99) || out(what, 0, 2)) {
                return OUTSIDE;
            }
            int[] answers = {0, NONE, 0};
            long x = seed;
            for (int i = 0; i < n; i++) {
                x = (75 * x + 74) % 65537;
                int[] box = {1 + (int) (x % 20), 1 + (int) (x / 20 % 20), 1 + (int) (x / 400 % 20)};
                int[] found = how(box, w.sheets[sheet]);
                if (found != null) {
                    answers[0]++;
                    answers[1] = Math.max(answers[1], found[2]);
                }
                answers[2] += paper(box, leastAxis(box));
            }
            return answers[what];
        }

        private int image(int n) {
            if (out(n, 0, 1)) {
                return OUTSIDE;
            }
            images[n] = w.copy();
            return 1;
        }

        private int restore(int n) {
            if (out(n, 0, 1)) {
                return OUTSIDE;
            }
            if (images[n] == null) {
                return STATE;
            }
            w = images[n].copy();
            return 1;
        }

        private int told(int what) {
            if (out(what, 0, 9) && what < 100) {
                return OUTSIDE;
            }
            if (what < 100) {
                return new int[] {pad.length(), bits(w.boxes), bits(w.things), bits(w.sheets), w.settings[0],
                    w.settings[1], w.settings[2], w.settings[3], w.marks.get(0).size(), w.marks.get(1).size()}[what];
            }
            for (int n = 0; n < 6; n++) {
                for (int i = 0; i < 3; i++) {
                    if (what == 100 * (1 + n) + i && w.boxes[n] != null) {
                        return w.boxes[n][i];
                    }
                    if (what == 100 * (1 + n) + 10 + i && w.things[n] != null) {
                        return w.things[n][i];
                    }
                    if (i < 2 && what == 100 * (1 + n) + 20 + i && w.sheets[n] != null) {
                        return w.sheets[n][i];
                    }
                }
            }
            return OUTSIDE;
        }
    }
}
