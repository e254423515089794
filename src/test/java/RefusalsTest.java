import java.util.ArrayList;
import java.util.Arrays;
import java.util.List;

/**
 * Each call by both ends of the range of each of its arguments, one and two arguments at a time, in several
 * states: which refusal is due, in the document's order, and that a refused call changes nothing.
 */
public final class RefusalsTest {
    private static final int MIN = Integer.MIN_VALUE;
    private static final int MAX = Integer.MAX_VALUE;
    private static final int UNKNOWN = -1, OUTSIDE = -2, STATE = -3, FULL = -4, NO = -5, NONE = -6;
    private static final int TAKEN = 0;
    private static final int PROBES = 4;
    private static int wrong = 0;
    private static int asked = 0;

    private interface Ask {
        int of(PaperBoxes x, int[] a);
    }

    /** The refusal that the document asks for, or TAKEN, if the call is not refused. */
    private interface Rule {
        int of(Scene s, int[] a);
    }

    /** The first value of each argument is one that is fine in all scenes but the empty one. */
    private record Call(String name, Kind kind, Ask ask, Rule rule, int[]... values) {
    }

    /** CHANGES something; ASKS, and is never NONE; SEEKS, and may be NONE. */
    private enum Kind { CHANGES, ASKS, SEEKS }

    /** A state, by what is there as bits, by how many marks, by the images kept and the signs said. */
    private record Scene(String name, int boxes, int things, int sheets, int marks, int images, String pad, int lay) {
        PaperBoxes build() {
            PaperBoxes x = new PaperBoxes();
            for (int n = 0; n < 2; n++) {
                if ((images >> n & 1) == 1) {
                    keepImage(x, n);
                }
            }
            for (int i = 0; i < 6; i++) {
                if ((boxes >> i & 1) == 1) {
                    x.box(i, 3 + i, 8 - i, 2 + 2 * i);
                }
                if ((things >> i & 1) == 1) {
                    x.thing(i, 1 + i, 2, 7 - i);
                }
                if ((sheets >> i & 1) == 1) {
                    x.sheet(i, 60 + 9 * i, 40 - 3 * i);
                }
            }
            for (int i = 0; i < marks; i++) {
                x.mark(0, 5 + 24 * i);
                x.mark(1, 1 + 5 * (i % 2));
            }
            for (int i = 0; i < pad.length(); i++) {
                x.say(pad.charAt(i));
            }
            return x;
        }

        private static void keepImage(PaperBoxes x, int n) {
            x.box(n, 7, 8, 9 + n);
            x.thing(1 + n, 2, 3, 4 + n);
            x.sheet(2 + n, 90, 80 + n);
            x.mark(0, 33 + n);
            x.mark(1, 12 + n);
            x.set(0, 2 + n);
            x.set(1, 4 + n);
            x.set(2, 6 + n);
            x.set(3, 8 + n);
            x.image(n);
            x.drop(0, n);
            x.drop(1, 1 + n);
            x.drop(2, 2 + n);
            x.iron(0);
            x.iron(1);
            x.set(0, 1);
            x.set(1, 0);
            x.set(2, 1);
            x.set(3, 10);
        }
    }

    private static final String SIXTY_LAYABLE = "B1x1x1;B1x1x2;B1x1x3;B1x1x4;B1x1x5;B1x1x6;S150x150;S149x148;";
    private static final String SIXTY_FAULTY = "B1x1x1;B1x1x2;B1x1x3;B1x1x4;B1x1x5;B1x1x6;S150x150;S149x148;"
            .substring(0, 59) + "x";

    private static final Scene[] SCENES = {
        new Scene("nothing there", 0, 0, 0, 0, 0, "", TAKEN),
        new Scene("nothing there, the pad full", 0, 0, 0, 0, 0, SIXTY_LAYABLE, TAKEN),
        new Scene("one there", 8, 8, 8, 1, 2, "B1x2x", NO),
        new Scene("some there", 9 + 32, 8 + 4, 8 + 1 + 16, 5, 1, "T1x2x3;S4x5;", TAKEN),
        new Scene("all six there, no number left", 63, 63, 63, 6, 3, SIXTY_LAYABLE, FULL),
        new Scene("all six there, no number left, a fault", 63, 63, 63, 6, 3, SIXTY_FAULTY, NO),
    };

    // 32 and 35 are 0 and 3 to a shift that looks at five bits alone
    private static final int[] NUMBER = {3, 0, 1, 2, 4, 5, 6, -1, 32, 35, MIN, MAX};
    private static final int[] AXIS = {0, 1, 2, 3, -1, 32, MIN, MAX};
    private static final int[] SIDE = {1, 20, 0, 21, -1, MIN, MAX};
    private static final int[] SHEET_SIDE = {150, 1, 0, 151, -1, MIN, MAX};
    private static final int[] TWO = {0, 1, 2, -1, MIN, MAX};
    private static final int[] THREE = {0, 1, 2, 3, -1, MIN, MAX};
    private static final int[] FOUR = {0, 1, 2, 3, 4, -1, MIN, MAX};
    private static final int[] SETTING = {1, 0, -1, 9, 10, 40, 41, 60, 61, MIN, MAX};
    private static final int[] SIGN = {33, 126, 32, 127, 0, -1, 33 + 256, MIN, MAX};
    private static final int[] PENCE = {0, 99, 100, -1, MIN, MAX};
    private static final int[] LENGTH = {300, 1, 0, 301, -1, MIN, MAX};
    private static final int[] SET = {8, 0, 1, 9, 15, 31, 32, 41, 62, 63, 64, 72, -1, MIN, MIN + 8, MAX};
    private static final int[] PLACE = {-1, 0, 1, 5, 6, 32, -2, MIN, MAX};
    private static final int[] THING = {-1, 3, 0, 1, 5, 6, -2, 32, 35, MIN, MAX};
    private static final int[] DISTANCE = {0, 90, 91, 150, 151, -1, MIN, MAX};
    private static final int[] ROUND = {0, 1, 89, 90, -1, MIN, MAX};
    private static final int[] SEED = {0, 9999, 10000, -1, MIN, MAX};
    private static final int[] PRESENTS = {1, 99, 0, 100, -1, MIN, MAX};
    private static final int[] TOLD = {0, 1, 9, 10, 11, 20, 99, 100, 102, 103, 110, 112, 113, 120, 121, 122, 130,
        400, 402, 403, 410, 412, 413, 420, 421, 422, 600, 602, 610, 612, 620, 621, 622, 700, 710, 720, -1, -100,
        MIN, MAX};

    private static boolean out(int v, int first, int last) {
        return v < first || v > last;
    }

    private static boolean isNot(int bits, int number) {
        return out(number, 0, 5) || (bits >> number & 1) == 0;
    }

    private static int first(boolean one, int refusal, boolean other, int otherRefusal) {
        return one ? refusal : other ? otherRefusal : TAKEN;
    }

    private static int unknown(boolean isUnknown) {
        return isUnknown ? UNKNOWN : TAKEN;
    }

    private static int outside(boolean isOutside) {
        return isOutside ? OUTSIDE : TAKEN;
    }

    private static int solid(int[] a) {
        return first(out(a[0], 0, 5), UNKNOWN, out(a[1], 1, 20) || out(a[2], 1, 20) || out(a[3], 1, 20), OUTSIDE);
    }

    private static int boxAxisWhat(Scene s, int[] a, int last) {
        return first(isNot(s.boxes, a[0]) || out(a[1], 0, 2), UNKNOWN, out(a[2], 0, last), OUTSIDE);
    }

    private static int setting(int[] a) {
        int[] least = {0, 0, 1, 0};
        int[] most = {9, 9, 40, 60};
        return outside(out(a[0], 0, 3) || out(a[1], least[a[0]], most[a[0]]));
    }

    private static int drop(Scene s, int[] a) {
        if (out(a[0], 0, 2)) {
            return OUTSIDE;
        }
        return unknown(isNot(a[0] == 0 ? s.boxes : a[0] == 1 ? s.things : s.sheets, a[1]));
    }

    private static int cheaper(Scene s, int[] a) {
        return first(isNot(s.boxes, a[0]), UNKNOWN, out(a[1], 1, 150) || out(a[2], 0, 99) || out(a[3], 1, 150)
                || out(a[4], 0, 99) || out(a[5], 0, 1), OUTSIDE);
    }

    private static int cut(Scene s, int[] a) {
        if (isNot(s.sheets, a[1])) {
            return UNKNOWN;
        }
        return first((a[0] & ~s.boxes) != 0, OUTSIDE, Integer.bitCount(a[0]) > 4, FULL);
    }

    private static int paired(Scene s, int[] a) {
        return first((a[0] & ~s.things) != 0, OUTSIDE, a[1] != -1 && isNot(a[0], a[1]), UNKNOWN);
    }

    private static int mark(Scene s, int[] a) {
        return first(out(a[0], 0, 1) || out(a[1], 0, a[0] == 0 ? 150 : 90), OUTSIDE, s.marks == 6, FULL);
    }

    private static int hidden(Scene s, int[] a) {
        return first(isNot(s.boxes, a[0]) || out(a[1], 0, 2) || isNot(s.sheets, a[2]), UNKNOWN,
                out(a[3], 0, 1), OUTSIDE);
    }

    private static int year(Scene s, int[] a) {
        return first(isNot(s.sheets, a[2]), UNKNOWN, out(a[0], 0, 9999) || out(a[1], 1, 99) || out(a[3], 0, 2),
                OUTSIDE);
    }

    private static int told(Scene s, int[] a) {
        int number = a[0] / 100 - 1;
        int detail = a[0] % 100;
        if (a[0] < 100) {
            return outside(out(a[0], 0, 9));
        }
        boolean isBox = !isNot(s.boxes, number) && !out(detail, 0, 2);
        boolean isThing = !isNot(s.things, number) && !out(detail, 10, 12);
        boolean isSheet = !isNot(s.sheets, number) && !out(detail, 20, 21);
        return outside(!isBox && !isThing && !isSheet);
    }

    private static final Call[] CALLS = {
        new Call("box", Kind.CHANGES, (x, a) -> x.box(a[0], a[1], a[2], a[3]), (s, a) -> solid(a),
                NUMBER, SIDE, SIDE, SIDE),
        new Call("thing", Kind.CHANGES, (x, a) -> x.thing(a[0], a[1], a[2], a[3]), (s, a) -> solid(a),
                NUMBER, SIDE, SIDE, SIDE),
        new Call("sheet", Kind.CHANGES, (x, a) -> x.sheet(a[0], a[1], a[2]),
                (s, a) -> first(out(a[0], 0, 5), UNKNOWN, out(a[1], 1, 150) || out(a[2], 1, 150), OUTSIDE),
                NUMBER, SHEET_SIDE, SHEET_SIDE),
        new Call("drop", Kind.CHANGES, (x, a) -> x.drop(a[0], a[1]), (s, a) -> drop(s, a), THREE, NUMBER),
        new Call("set", Kind.CHANGES, (x, a) -> x.set(a[0], a[1]), (s, a) -> setting(a), FOUR, SETTING),
        new Call("say", Kind.CHANGES, (x, a) -> x.say(a[0]),
                (s, a) -> first(out(a[0], 33, 126), OUTSIDE, s.pad.length() == 60, FULL), SIGN),
        new Call("wipe", Kind.CHANGES, (x, a) -> x.wipe(), (s, a) -> TAKEN),
        new Call("fault", Kind.SEEKS, (x, a) -> x.fault(), (s, a) -> TAKEN),
        new Call("lay", Kind.CHANGES, (x, a) -> x.lay(), (s, a) -> s.lay),
        new Call("need", Kind.ASKS, (x, a) -> x.need(a[0], a[1], a[2]), (s, a) -> boxAxisWhat(s, a, 2),
                NUMBER, AXIS, THREE),
        new Call("least", Kind.ASKS, (x, a) -> x.least(a[0], a[1]),
                (s, a) -> first(isNot(s.boxes, a[0]), UNKNOWN, out(a[1], 0, 1), OUTSIDE), NUMBER, TWO),
        new Call("does", Kind.SEEKS, (x, a) -> x.does(a[0], a[1], a[2]),
                (s, a) -> first(isNot(s.boxes, a[0]) || isNot(s.sheets, a[1]), UNKNOWN, out(a[2], 0, 2), OUTSIDE),
                NUMBER, NUMBER, THREE),
        new Call("taken", Kind.SEEKS, (x, a) -> x.taken(a[0]), (s, a) -> unknown(isNot(s.boxes, a[0])), NUMBER),
        new Call("shortBy", Kind.ASKS, (x, a) -> x.shortBy(a[0], a[1], a[2], a[3]),
                (s, a) -> first(isNot(s.boxes, a[0]) || isNot(s.sheets, a[1]) || out(a[2], 0, 2), UNKNOWN,
                        out(a[3], 0, 1), OUTSIDE), NUMBER, NUMBER, AXIS, TWO),
        new Call("slant", Kind.SEEKS, (x, a) -> x.slant(a[0], a[1]),
                (s, a) -> unknown(isNot(s.boxes, a[0]) || out(a[1], 0, 2)), NUMBER, AXIS),
        new Call("slants", Kind.ASKS, (x, a) -> x.slants(a[0], a[1]),
                (s, a) -> unknown(isNot(s.boxes, a[0]) || isNot(s.sheets, a[1])), NUMBER, NUMBER),
        new Call("saved", Kind.SEEKS, (x, a) -> x.saved(a[0]), (s, a) -> unknown(isNot(s.boxes, a[0])), NUMBER),
        new Call("roll", Kind.SEEKS, (x, a) -> x.roll(a[0], a[1], a[2]),
                (s, a) -> first(isNot(s.boxes, a[0]), UNKNOWN, out(a[1], 1, 150) || out(a[2], 0, 2), OUTSIDE),
                NUMBER, SHEET_SIDE, THREE),
        new Call("cheaper", Kind.SEEKS, (x, a) -> x.cheaper(a[0], a[1], a[2], a[3], a[4], a[5]),
                (s, a) -> cheaper(s, a), NUMBER, SHEET_SIDE, PENCE, SHEET_SIDE, PENCE, TWO),
        new Call("narrow", Kind.SEEKS, (x, a) -> x.narrow(a[0], a[1]),
                (s, a) -> first(isNot(s.boxes, a[0]), UNKNOWN, out(a[1], 1, 300), OUTSIDE), NUMBER, LENGTH),
        new Call("pieces", Kind.SEEKS, (x, a) -> x.pieces(a[0], a[1], a[2]), (s, a) -> boxAxisWhat(s, a, 1),
                NUMBER, AXIS, TWO),
        new Call("cut", Kind.ASKS, (x, a) -> x.cut(a[0], a[1]), (s, a) -> cut(s, a), SET, NUMBER),
        new Call("most", Kind.ASKS, (x, a) -> x.most(a[0], a[1]),
                (s, a) -> first(isNot(s.sheets, a[0]), UNKNOWN, out(a[1], 0, 2), OUTSIDE), NUMBER, THREE),
        new Call("usedUp", Kind.SEEKS, (x, a) -> x.usedUp(a[0], a[1]),
                (s, a) -> outside((a[0] & ~s.boxes) != 0), SET, PLACE),
        new Call("pleat", Kind.ASKS, (x, a) -> x.pleat(a[0], a[1]),
                (s, a) -> unknown(isNot(s.boxes, a[0]) || out(a[1], 0, 2)), NUMBER, AXIS),
        new Call("match", Kind.ASKS, (x, a) -> x.match(a[0]), (s, a) -> unknown(isNot(s.boxes, a[0])), NUMBER),
        new Call("ribbon", Kind.ASKS, (x, a) -> x.ribbon(a[0], a[1]),
                (s, a) -> unknown(isNot(s.boxes, a[0]) || out(a[1], 0, 2)), NUMBER, AXIS),
        new Call("corners", Kind.ASKS, (x, a) -> x.corners(a[0], a[1], a[2]), (s, a) -> boxAxisWhat(s, a, 1),
                NUMBER, AXIS, TWO),
        new Call("fits", Kind.ASKS, (x, a) -> x.fits(a[0], a[1]),
                (s, a) -> unknown(isNot(s.things, a[0]) || isNot(s.boxes, a[1])), NUMBER, NUMBER),
        new Call("tight", Kind.SEEKS, (x, a) -> x.tight(a[0]), (s, a) -> unknown(isNot(s.things, a[0])), NUMBER),
        new Call("paired", Kind.SEEKS, (x, a) -> x.paired(a[0], a[1]), (s, a) -> paired(s, a), SET, THING),
        new Call("mark", Kind.CHANGES, (x, a) -> x.mark(a[0], a[1]), (s, a) -> mark(s, a), TWO, DISTANCE),
        new Call("iron", Kind.CHANGES, (x, a) -> x.iron(a[0]), (s, a) -> outside(out(a[0], 0, 1)), TWO),
        new Call("hidden", Kind.SEEKS, (x, a) -> x.hidden(a[0], a[1], a[2], a[3]), (s, a) -> hidden(s, a),
                NUMBER, AXIS, NUMBER, TWO),
        new Call("undone", Kind.SEEKS, (x, a) -> x.undone(a[0], a[1]),
                (s, a) -> outside(out(a[0], 0, 89) || out(a[1], 0, 1)), ROUND, TWO),
        new Call("year", Kind.SEEKS, (x, a) -> x.year(a[0], a[1], a[2], a[3]), (s, a) -> year(s, a),
                SEED, PRESENTS, NUMBER, THREE),
        new Call("image", Kind.CHANGES, (x, a) -> x.image(a[0]), (s, a) -> outside(out(a[0], 0, 1)), TWO),
        new Call("restore", Kind.CHANGES, (x, a) -> x.restore(a[0]),
                (s, a) -> first(out(a[0], 0, 1), OUTSIDE, (s.images >> a[0] & 1) == 0, STATE), TWO),
        new Call("told", Kind.ASKS, (x, a) -> x.told(a[0]), (s, a) -> told(s, a), TOLD),
    };

    public static void main(String[] args) {
        if (CALLS.length != 39) {
            wrong++;
            System.out.println("there are " + CALLS.length + " calls here, and 39 in the document");
        }
        for (Scene scene : SCENES) {
            String[] before = probed(scene, null, null);
            for (Call call : CALLS) {
                for (int[] a : trials(call.values)) {
                    trial(scene, call, a, before);
                }
            }
        }
        System.out.println(wrong == 0 ? asked + " calls are refused or taken as due" : wrong + " answers are wrong");
        if (wrong != 0) {
            System.exit(1);
        }
    }

    /** All arguments at their first values, then each of their values for one of them and for two of them. */
    private static List<int[]> trials(int[][] values) {
        List<int[]> all = new ArrayList<>();
        int[] base = new int[values.length];
        for (int k = 0; k < values.length; k++) {
            base[k] = values[k][0];
        }
        all.add(base);
        for (int one = 0; one < values.length; one++) {
            for (int i = 1; i < values[one].length; i++) {
                int[] a = base.clone();
                a[one] = values[one][i];
                all.add(a);
                for (int two = one + 1; two < values.length; two++) {
                    for (int k = 1; k < values[two].length; k++) {
                        int[] both = a.clone();
                        both[two] = values[two][k];
                        all.add(both);
                    }
                }
            }
        }
        return all;
    }

    private static void trial(Scene scene, Call call, int[] a, String[] before) {
        asked++;
        int due = call.rule.of(scene, a);
        int got = call.ask.of(scene.build(), a);
        boolean isRight = due == TAKEN ? got >= 0 || got == NONE && call.kind == Kind.SEEKS : got == due;
        String told = scene.name + ": " + call.name + Arrays.toString(a);
        must(isRight, told + " answered " + got + ", due is " + (due == TAKEN ? "no refusal" : due));
        if (due != TAKEN || call.kind != Kind.CHANGES) {
            String[] after = probed(scene, call, a);
            for (int i = 0; i < PROBES; i++) {
                must(before[i].equals(after[i]), told + " changed the state: " + before[i] + " became " + after[i]);
            }
        }
    }

    private static void must(boolean holds, String what) {
        if (!holds) {
            wrong++;
            if (wrong <= 40) {
                System.out.println(what);
            }
        }
    }

    /** The state as other calls tell it; each probe has an object of its own, as it may use up its calls. */
    private static String[] probed(Scene scene, Call call, int[] a) {
        String[] all = new String[PROBES];
        for (int i = 0; i < PROBES; i++) {
            PaperBoxes x = scene.build();
            if (call != null) {
                call.ask.of(x, a);
            }
            all[i] = probe(x, i);
        }
        return all;
    }

    private static String probe(PaperBoxes x, int which) {
        StringBuilder all = new StringBuilder();
        if (which == 0) {
            tellAll(x, all);
            all.append(" fault ").append(x.fault());
            tellMarks(x, all);
        } else if (which == 1) {
            for (int i = 0; i < 18; i++) {
                x.drop(i / 6, i % 6);
            }
            all.append("laid ").append(x.lay());
            tellAll(x, all);
            all.append(" wiped ").append(x.wipe());
        } else {
            all.append("restored ").append(x.restore(which - 2));
            tellAll(x, all);
            tellMarks(x, all);
        }
        return all.toString();
    }

    private static void tellAll(PaperBoxes x, StringBuilder all) {
        for (int what = 0; what < 10; what++) {
            all.append(' ').append(x.told(what));
        }
        for (int number = 100; number <= 600; number += 100) {
            for (int detail : new int[] {0, 1, 2, 10, 11, 12, 20, 21}) {
                all.append(' ').append(x.told(number + detail));
            }
        }
    }

    private static void tellMarks(PaperBoxes x, StringBuilder all) {
        x.set(0, 1);
        x.box(0, 1, 1, 1);
        for (int width = 150; width > 0; width -= 15) {
            x.sheet(0, width, 1);
            all.append(' ').append(x.hidden(0, 0, 0, 0)).append(' ').append(x.hidden(0, 0, 0, 1));
        }
        for (int lap = 0; lap <= 4; lap++) {
            x.set(0, lap);
            all.append(' ').append(x.undone(0, 0)).append(' ').append(x.undone(0, 1));
        }
    }
}
