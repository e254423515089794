/**
 * Each sentence of the document that names a boundary case, in the document's order: the last that is inside
 * and the first that is not, nothing there and all there, several alike, none at all. (Ranges of arguments,
 * the order of refusals, and that a refused call changes nothing, are RefusalsTest's.)
 */
public final class EdgesTest {
    private static final int MIN = Integer.MIN_VALUE;
    private static final int MAX = Integer.MAX_VALUE;
    private static final int UNKNOWN = -1, OUTSIDE = -2, STATE = -3, FULL = -4, NO = -5, NONE = -6;
    private static int wrong = 0;

    private static void due(String what, int want, int got) {
        if (want != got) {
            wrong++;
            System.out.println(what + ": answered " + got + ", due is " + want);
        }
    }

    public static void main(String[] args) {
        terms();
        lists();
        straight();
        slant();
        rolls();
        pieces();
        cuts();
        usedUp();
        patternsAndRibbons();
        things();
        folds();
        creases();
        years();
        images();
        tellings();
        System.out.println(wrong == 0 ? "all edges hold" : wrong + " answers are wrong");
        if (wrong != 0) {
            System.exit(1);
        }
    }

    private static PaperBoxes withBox(int a, int b, int c) {
        PaperBoxes x = new PaperBoxes();
        x.box(0, a, b, c);
        return x;
    }

    private static PaperBoxes saying(String text) {
        PaperBoxes x = new PaperBoxes();
        say(x, text);
        return x;
    }

    private static void say(PaperBoxes x, String text) {
        for (int i = 0; i < text.length(); i++) {
            x.say(text.charAt(i));
        }
    }

    private static void boxes(PaperBoxes x, int... sides) {
        for (int i = 0; i < sides.length; i += 3) {
            x.box(i / 3, sides[i], sides[i + 1], sides[i + 2]);
        }
    }

    private static void sheets(PaperBoxes x, int... sides) {
        for (int i = 0; i < sides.length; i += 2) {
            x.sheet(i / 2, sides[i], sides[i + 1]);
        }
    }

    private static void settings(PaperBoxes x, int lap, int edge) {
        x.set(0, lap);
        x.set(1, edge);
    }

    // ======== terms, promises 1 to 8

    private static void terms() {
        constants();
        nothingAtFirst();
        countsOfEachSort();
        puttingAnewLeavesTheOthers();
        droppingToNothing();
        settingsOnTheirOwn();
        padOfSixty();
        lastOf512Calls();
    }

    private static void constants() {
        due("UNKNOWN", UNKNOWN, PaperBoxes.UNKNOWN);
        due("OUTSIDE", OUTSIDE, PaperBoxes.OUTSIDE);
        due("STATE", STATE, PaperBoxes.STATE);
        due("FULL", FULL, PaperBoxes.FULL);
        due("NO", NO, PaperBoxes.NO);
        due("NONE", NONE, PaperBoxes.NONE);
    }

    private static void nothingAtFirst() {
        PaperBoxes x = new PaperBoxes();
        for (int number = 0; number < 6; number++) {
            due("no BOX at first", UNKNOWN, x.least(number, 0));
            due("no THING at first", UNKNOWN, x.tight(number));
            due("no SHEET at first", UNKNOWN, x.most(number, 0));
            for (int detail : new int[] {0, 1, 2, 10, 11, 12, 20, 21}) {
                due("no side at first", OUTSIDE, x.told(100 + 100 * number + detail));
            }
        }
        int[] first = {0, 0, 0, 0, 1, 0, 1, 10, 0, 0};
        for (int what = 0; what < 10; what++) {
            due("told(" + what + ") at first", first[what], x.told(what));
        }
        due("no signs at first", 0, x.wipe());
        due("no FOLDS at first", 0, x.iron(0));
        due("no CREASES at first", 0, x.iron(1));
        due("no image 0 at first", STATE, x.restore(0));
        due("no image 1 at first", STATE, x.restore(1));
        PaperBoxes other = new PaperBoxes();
        other.box(0, 1, 1, 1);
        due("objects are apart", 0, x.told(1));
    }

    private static void countsOfEachSort() {
        PaperBoxes x = new PaperBoxes();
        int[] order = {5, 0, 3, 1, 4, 2};
        int bits = 0;
        for (int i = 0; i < 6; i++) {
            bits |= 1 << order[i];
            due("how many BOXES are there", i + 1, x.box(order[i], 1, 20, 1));
            due("BOXES as bits", bits, x.told(1));
            due("how many THINGS are there", i + 1, x.thing(order[i], 20, 1, 20));
            due("THINGS as bits", bits, x.told(2));
            due("how many SHEETS are there", i + 1, x.sheet(order[i], 1, 150));
            due("SHEETS as bits", bits, x.told(3));
        }
        for (int i = 0; i < 6; i++) {
            due("a BOX anew when all are there", 6, x.box(i, 2, 2, 2));
            due("a THING anew when all are there", 6, x.thing(i, 2, 2, 2));
            due("a SHEET anew when all are there", 6, x.sheet(i, 2, 2));
        }
    }

    private static void puttingAnewLeavesTheOthers() {
        PaperBoxes x = new PaperBoxes();
        for (int i = 0; i < 6; i++) {
            x.box(i, 1 + i, 7 + i, 13 + i);
            x.thing(i, 2 + i, 8 + i, 14 + i);
            x.sheet(i, 30 + i, 140 + i);
        }
        x.box(2, 20, 1, 20);
        x.thing(3, 1, 20, 1);
        x.sheet(4, 150, 1);
        for (int i = 0; i < 6; i++) {
            int at = 100 + 100 * i;
            due("a of BOX " + i, i == 2 ? 20 : 1 + i, x.told(at));
            due("b of BOX " + i, i == 2 ? 1 : 7 + i, x.told(at + 1));
            due("c of BOX " + i, i == 2 ? 20 : 13 + i, x.told(at + 2));
            due("a of THING " + i, i == 3 ? 1 : 2 + i, x.told(at + 10));
            due("b of THING " + i, i == 3 ? 20 : 8 + i, x.told(at + 11));
            due("c of THING " + i, i == 3 ? 1 : 14 + i, x.told(at + 12));
            due("WIDTH of SHEET " + i, i == 4 ? 150 : 30 + i, x.told(at + 20));
            due("HEIGHT of SHEET " + i, i == 4 ? 1 : 140 + i, x.told(at + 21));
        }
    }

    private static void droppingToNothing() {
        PaperBoxes x = new PaperBoxes();
        for (int sort = 0; sort < 3; sort++) {
            for (int i = 0; i < 6; i++) {
                due("drop of nothing", UNKNOWN, x.drop(sort, i));
            }
        }
        for (int i = 0; i < 6; i++) {
            x.box(i, 1, 1, 1);
            x.thing(i, 1, 1, 1);
            x.sheet(i, 1, 1);
        }
        int[] order = {3, 5, 0, 4, 1, 2};
        for (int sort = 0; sort < 3; sort++) {
            int bits = 63;
            for (int i = 0; i < 6; i++) {
                bits &= ~(1 << order[i]);
                due("drop: how many of its sort are there", 5 - i, x.drop(sort, order[i]));
                due("drop: the others stay", bits, x.told(1 + sort));
                due("drop: it was not there", UNKNOWN, x.drop(sort, order[i]));
                due("drop: its sides are gone", OUTSIDE, x.told(100 + 100 * order[i] + 10 * sort));
            }
            for (int other = sort + 1; other < 3; other++) {
                due("drop: the other sorts stay", 63, x.told(1 + other));
            }
        }
        due("drop, and there again", 1, x.box(3, 4, 5, 6));
        due("drop, and there again", 5, x.told(401));
    }

    private static void settingsOnTheirOwn() {
        int[] least = {0, 0, 1, 0};
        int[] most = {9, 9, 40, 60};
        int[] first = {1, 0, 1, 10};
        for (int which = 0; which < 4; which++) {
            PaperBoxes x = new PaperBoxes();
            int was = first[which];
            for (int v = least[which]; v <= most[which]; v++) {
                due("set(" + which + ", " + v + "): which it was", was, x.set(which, v));
                was = v;
            }
            due("set: the same again", was, x.set(which, was));
            for (int other = 0; other < 4; other++) {
                due("set: the others stay", other == which ? most[which] : first[other], x.told(4 + other));
            }
        }
        PaperBoxes x = new PaperBoxes();
        due("PERIOD 0", OUTSIDE, x.set(2, 0));
        due("LAP 10", OUTSIDE, x.set(0, 10));
        due("EDGE 10", OUTSIDE, x.set(1, 10));
        due("PERIOD 41", OUTSIDE, x.set(2, 41));
        due("KNOT 61", OUTSIDE, x.set(3, 61));
        due("PERIOD stays", 1, x.told(6));
    }

    private static void padOfSixty() {
        for (int sign = 33; sign <= 126; sign++) {
            due("the sign " + sign, 1, new PaperBoxes().say(sign));
        }
        for (int sign : new int[] {32, 127, 31, 128, 0, -1, 255, 66 + 256, 66 + 65536, MIN, MAX}) {
            PaperBoxes x = new PaperBoxes();
            due("no sign " + sign, OUTSIDE, x.say(sign));
            due("no sign " + sign, 0, x.told(0));
        }
        PaperBoxes x = saying("S1x1;S1x1;S1x1;S1x1;S1x1;S1x1;S1x1;S1x1;S1x1;S1x1;S1x1;S1x1");
        due("59 signs", 59, x.told(0));
        due("59 signs: more must come", 59, x.fault());
        due("the 60th sign", 60, x.say(';'));
        due("one sign more", FULL, x.say(';'));
        due("one sign more, OUTSIDE ahead", OUTSIDE, x.say(32));
        due("60 signs", 60, x.told(0));
        due("60 signs, no FAULT", NONE, x.fault());
        due("60 signs wiped", 60, x.wipe());
        due("none to wipe", 0, x.wipe());
        due("empty, no FAULT", NONE, x.fault());
        due("room again", 1, x.say('~'));
    }

    private static void lastOf512Calls() {
        PaperBoxes x = new PaperBoxes();
        for (int i = 0; i < 255; i++) {
            x.say(33 + i % 94);
            x.wipe();
        }
        due("the 511th call", 1, x.box(5, 1, 2, 3));
        due("the 512th call", 3, x.told(602));
    }

    // ======== lists, promises 9 and 10

    private static void lists() {
        signsThatCanStand();
        firstFault();
        listsThatEndTooEarly();
        laidEmpty();
        laidAtFirstFree();
        laidWhole();
        noNumberLeft();
        faultAheadOfNoNumber();
    }

    private static final String DIGITS = "0123456789", FIRST_DIGITS = "123456789", LETTERS = "BTS";

    /** Behind each beginning, of all 94 signs just these can stand. */
    private static void signsThatCanStand() {
        canStand("", LETTERS);
        for (String letter : new String[] {"B", "T"}) {
            for (int part = 0; part < 3; part++) {
                String head = letter + "19x20x".substring(0, 3 * part);
                String behind = part == 2 ? ";" : "x";
                canStand(head, FIRST_DIGITS);
                canStand(head + "1", DIGITS + behind);
                canStand(head + "2", "0" + behind);
                for (int number = 3; number <= 20; number++) {
                    canStand(head + number, behind);
                }
            }
            canStand(letter + "1x2x3;", LETTERS);
            canStand(letter + "20x20x20;", LETTERS);
        }
        for (int part = 0; part < 2; part++) {
            String head = "S" + "150x".substring(0, 4 * part);
            String behind = part == 1 ? ";" : "x";
            canStand(head, FIRST_DIGITS);
            for (int number = 1; number <= 150; number++) {
                String more = number < 15 ? DIGITS : number == 15 ? "0" : "";
                canStand(head + number, (number < 10 ? DIGITS : more) + behind);
            }
        }
        canStand("S1x2;", LETTERS);
        canStand("S150x150;T1x1x1;B20x20x20;", LETTERS);
    }

    private static void canStand(String beginning, String signs) {
        for (int sign = 33; sign <= 126; sign++) {
            PaperBoxes x = saying(beginning);
            x.say(sign);
            int length = beginning.length();
            int want = signs.indexOf(sign) < 0 ? length : sign == ';' ? NONE : length + 1;
            due("THE FAULT of " + beginning + (char) sign, want, x.fault());
        }
    }

    private static void firstFault() {
        due("the first of several", 1, saying("B00;;").fault());
        due("a FAULT stays, whatever comes behind", 3, saying("B1xxB1x1x1;").fault());
        due("a FAULT in the last of 60", 59,
                saying("S1x1;S1x1;S1x1;S1x1;S1x1;S1x1;S1x1;S1x1;S1x1;S1x1;S1x1;S1x1x").fault());
        due("a small letter", 0, saying("b1x1x1;").fault());
        due("a great X", 2, saying("B1X1x1;").fault());
        due("a number one too great", 2, saying("B21x1x1;").fault());
        due("a number one too great, the last", 8, saying("T20x20x21;").fault());
        due("a number one too great", 3, saying("S151x1;").fault());
        due("a number one too great, the last", 7, saying("S150x151;").fault());
        due("a digit more than can be", 4, saying("S1500").fault());
        due("a digit more than can be", 3, saying("S999").fault());
        PaperBoxes x = saying("B1x1x1;?");
        due("asked twice", 7, x.fault());
        due("asked twice", 7, x.fault());
        due("wiped", 8, x.wipe());
        due("a FAULT goes with the signs", NONE, x.fault());
        say(x, "B1x1");
        due("more must come", 4, x.fault());
        say(x, "x1;");
        due("more has come", NONE, x.fault());
    }

    private static void listsThatEndTooEarly() {
        for (String whole : new String[] {"B1x20x3;", "T11x12x13;", "S150x9;", "S1x1;B1x1x1;T2x2x2;"}) {
            for (int length = 1; length <= whole.length(); length++) {
                String text = whole.substring(0, length);
                boolean isWhole = text.endsWith(";");
                PaperBoxes x = saying(text);
                due("THE FAULT of " + text, isWhole ? NONE : length, x.fault());
                due("LAID: " + text, isWhole ? text.split(";").length : NO, x.lay());
                due("signs behind " + text, isWhole ? 0 : length, x.told(0));
            }
        }
        String sixty = "S1x1;S1x1;S1x1;S1x1;S1x1;S1x1;S1x1;S1x1;S1x1;S1x1;B1x1x1;B10";
        due("60 signs, and more must come", 60, saying(sixty).fault());
        due("60 signs, and more must come", NO, saying(sixty).lay());
    }

    private static void laidEmpty() {
        PaperBoxes x = new PaperBoxes();
        due("an empty list, nothing there", 0, x.lay());
        for (int what = 0; what < 4; what++) {
            due("an empty list lays nothing", 0, x.told(what));
        }
        for (int i = 0; i < 6; i++) {
            x.box(i, 1, 1, 1);
            x.thing(i, 1, 1, 1);
            x.sheet(i, 1, 1);
        }
        due("an empty list, all there", 0, x.lay());
    }

    private static void laidAtFirstFree() {
        PaperBoxes x = new PaperBoxes();
        x.box(0, 9, 9, 9);
        x.box(2, 9, 9, 9);
        x.thing(1, 9, 9, 9);
        x.sheet(0, 9, 9);
        x.sheet(1, 9, 9);
        say(x, "B1x2x3;T4x5x6;S7x8;B10x11x12;T13x14x15;S16x17;");
        due("PARTS laid", 6, x.lay());
        due("BOXES laid", 15, x.told(1));
        due("THINGS laid", 7, x.told(2));
        due("SHEETS laid", 15, x.told(3));
        int[] places = {100, 200, 201, 202, 300, 400, 401, 402, 110, 111, 112, 210, 310, 311, 312,
            120, 220, 320, 321, 420, 421};
        int[] sides = {9, 1, 2, 3, 9, 10, 11, 12, 4, 5, 6, 9, 13, 14, 15, 9, 9, 7, 8, 16, 17};
        for (int i = 0; i < places.length; i++) {
            due("laid: told(" + places[i] + ")", sides[i], x.told(places[i]));
        }
        x.drop(0, 1);
        say(x, "B20x19x18;");
        due("a number that is free again", 1, x.lay());
        due("a number that is free again", 20, x.told(200));
        due("a number that is free again", 18, x.told(202));
    }

    private static void laidWhole() {
        PaperBoxes x = saying("B1x1x1;B1x1x2;B1x1x3;B1x1x4;B1x1x5;B1x1x6;S150x150;S149x148;");
        due("60 signs", 60, x.told(0));
        due("60 signs laid", 8, x.lay());
        due("60 signs laid: the PAD is empty then", 0, x.told(0));
        due("60 signs laid: no FAULT then", NONE, x.fault());
        due("60 signs laid: nothing to lay then", 0, x.lay());
        due("60 signs laid: BOXES", 63, x.told(1));
        due("60 signs laid: SHEETS", 3, x.told(3));
        for (int i = 0; i < 6; i++) {
            due("60 signs laid: BOX " + i, 1 + i, x.told(102 + 100 * i));
        }
        due("60 signs laid: SHEET 0", 150, x.told(121));
        due("60 signs laid: SHEET 1", 149, x.told(220));
        due("60 signs laid: SHEET 1", 148, x.told(221));
        due("room for signs again", 1, x.say('B'));
    }

    private static void noNumberLeft() {
        String[] parts = {"B2x3x4;", "T2x3x4;", "S2x3;"};
        for (int sort = 0; sort < 3; sort++) {
            PaperBoxes x = new PaperBoxes();
            for (int i = 0; i < 6; i++) {
                say(x, parts[sort]);
            }
            due("six PARTS and six numbers", 6, x.lay());
            due("six PARTS and six numbers", 63, x.told(1 + sort));
            String other = parts[(sort + 1) % 3];
            say(x, other + parts[sort]);
            due("no number left for some PART", FULL, x.lay());
            due("no PART is laid then", 0, x.told(1 + (sort + 1) % 3));
            due("the PAD stays then", (other + parts[sort]).length(), x.told(0));
            x.drop(sort, 4);
            due("one number left", 2, x.lay());
            due("one number left", 63, x.told(1 + sort));
            due("the other PART is laid too", 1, x.told(1 + (sort + 1) % 3));
        }
        PaperBoxes x = new PaperBoxes();
        say(x, "S1x1;S1x1;S1x1;S1x1;S1x1;S1x1;S1x1;");
        due("seven PARTS of a sort, nothing there", FULL, x.lay());
        due("seven PARTS of a sort, nothing there", 0, x.told(3));
        due("it is no FAULT", NONE, x.fault());
    }

    private static void faultAheadOfNoNumber() {
        PaperBoxes x = saying("S1x1;S1x1;S1x1;S1x1;S1x1;S1x1;S1x1;S");
        due("a FAULT ahead of no number", NO, x.lay());
        due("a FAULT ahead of no number", 36, x.told(0));
        say(x, "1x1;");
        due("no number alone", FULL, x.lay());
    }

    // ======== straight, promises 11 to 15

    private static void straight() {
        needsAtTheEnds();
        othersInTheirOrder();
        leastTheFirst();
        doesJustSo();
        doesTheFirst();
        takenTheFirst();
        shortByBoth();
    }

    private static void needsAtTheEnds() {
        PaperBoxes x = withBox(1, 1, 1);
        settings(x, 0, 0);
        for (int axis = 0; axis < 3; axis++) {
            due("the least ROUND", 4, x.need(0, axis, 0));
            due("the least LONG", 2, x.need(0, axis, 1));
            due("the least PAPER", 8, x.need(0, axis, 2));
        }
        due("the least PAPER of LEAST", 8, x.least(0, 1));
        x.box(0, 20, 20, 20);
        settings(x, 9, 9);
        for (int axis = 0; axis < 3; axis++) {
            due("the greatest ROUND", 89, x.need(0, axis, 0));
            due("the greatest LONG", 58, x.need(0, axis, 1));
            due("the greatest PAPER", 5162, x.need(0, axis, 2));
        }
        due("the greatest PAPER of LEAST", 5162, x.least(0, 1));
    }

    private static void othersInTheirOrder() {
        PaperBoxes x = withBox(2, 5, 11);
        settings(x, 3, 4);
        int[] round = {2 * 16 + 3, 2 * 13 + 3, 2 * 7 + 3};
        int[] along = {2 + 5 + 8, 5 + 2 + 8, 11 + 2 + 8};
        for (int axis = 0; axis < 3; axis++) {
            due("ROUND by " + axis, round[axis], x.need(0, axis, 0));
            due("LONG by " + axis, along[axis], x.need(0, axis, 1));
            due("PAPER by " + axis, round[axis] * along[axis], x.need(0, axis, 2));
        }
        x.box(0, 11, 5, 2);
        due("the lesser one of u and v is v", 11 + 2 + 8, x.need(0, 0, 1));
        due("the lesser one of u and v is v", 5 + 2 + 8, x.need(0, 1, 1));
        due("the lesser one of u and v is v", 2 + 5 + 8, x.need(0, 2, 1));
    }

    private static void leastTheFirst() {
        due("all alike", 0, withBox(7, 7, 7).least(0, 0));
        due("1 and 2 alike", 1, withBox(1, 3, 3).least(0, 0));
        due("1 and 2 alike", 36, withBox(1, 3, 3).least(0, 1));
        due("0 and 2 alike", 0, withBox(3, 1, 3).least(0, 0));
        due("0 and 1 alike", 0, withBox(3, 3, 1).least(0, 0));
        PaperBoxes x = withBox(1, 1, 2);
        settings(x, 0, 1);
        due("0 and 1 alike, 2 less", 2, x.least(0, 0));
        settings(x, 0, 0);
        due("alike by other sides", 0, x.least(0, 0));
        due("alike by other sides", 12, x.need(0, 2, 2));
        due("alike by other sides", 12, x.need(0, 0, 2));
    }

    private static void doesJustSo() {
        PaperBoxes x = withBox(9, 7, 4);
        int[][] sides = {{23, 13}, {27, 11}, {33, 11}};
        for (int axis = 0; axis < 2; axis++) {
            int round = sides[axis][0];
            int along = sides[axis][1];
            for (int turn = 0; turn < 2; turn++) {
                int width = turn == 0 ? round : along;
                int height = turn == 0 ? along : round;
                x.sheet(0, width, height);
                due("just so: the AXIS", axis, x.does(0, 0, 0));
                due("just so: the TURN", turn, x.does(0, 0, 1));
                due("just so: nothing is left", 0, x.does(0, 0, 2));
                x.sheet(0, width + 1, height + 1);
                due("one more: the AXIS", axis, x.does(0, 0, 0));
                due("one more: left", round + along + 1, x.does(0, 0, 2));
                x.sheet(0, width - 1, height);
                due("WIDTH one less", NONE, x.does(0, 0, 0));
                due("WIDTH one less", NONE, x.does(0, 0, 1));
                due("WIDTH one less", NONE, x.does(0, 0, 2));
                x.sheet(0, width, height - 1);
                due("HEIGHT one less", NONE, x.does(0, 0, 0));
            }
        }
        x.sheet(0, 1, 1);
        due("the least SHEET", NONE, x.does(0, 0, 0));
        x.sheet(0, 150, 150);
        due("the greatest SHEET", 22500 - 297, x.does(0, 0, 2));
    }

    private static void doesTheFirst() {
        PaperBoxes x = withBox(9, 7, 4);
        x.sheet(0, 27, 13);
        due("least PAPER ahead of the first AXIS", 1, x.does(0, 0, 0));
        due("least PAPER ahead of the first AXIS", 27 * 13 - 297, x.does(0, 0, 2));
        x.sheet(0, 26, 13);
        due("the least PAPER of those that do", 0, x.does(0, 0, 0));
        due("the least PAPER of those that do", 26 * 13 - 299, x.does(0, 0, 2));
        x.sheet(0, 27, 27);
        due("both TURNS: the first", 0, x.does(0, 0, 1));
        x.box(1, 1, 1, 2);
        x.set(0, 0);
        x.sheet(1, 4, 6);
        due("alike: the first AXIS ahead of the first TURN", 0, x.does(1, 1, 0));
        due("alike: the first AXIS ahead of the first TURN", 1, x.does(1, 1, 1));
        due("alike: what is left", 12, x.does(1, 1, 2));
        x.sheet(1, 4, 3);
        due("alike: only the last does", 2, x.does(1, 1, 0));
        due("alike: only the last does", 0, x.does(1, 1, 1));
        due("alike: nothing is left", 0, x.does(1, 1, 2));
        x.sheet(1, 3, 4);
        due("alike: only the last does, turned", 1, x.does(1, 1, 1));
    }

    private static void takenTheFirst() {
        PaperBoxes x = withBox(9, 7, 4);
        due("no SHEET there", NONE, x.taken(0));
        x.sheet(5, 23, 12);
        due("one there that does not", NONE, x.taken(0));
        x.sheet(5, 23, 13);
        due("one there that does", 5, x.taken(0));
        for (int i = 4; i >= 0; i--) {
            x.sheet(i, 13, 23);
            due("all alike: the first", i, x.taken(0));
        }
        x.sheet(3, 11, 27);
        due("the least area", 3, x.taken(0));
        x.sheet(3, 1, 1);
        due("a lesser area that does not", 0, x.taken(0));
        for (int i = 0; i < 6; i++) {
            x.sheet(i, 150, 10);
        }
        due("all six there, none does", NONE, x.taken(0));
        x.sheet(2, 27, 12);
        x.sheet(4, 12, 27);
        due("alike, the first of those that do", 2, x.taken(0));
    }

    private static void shortByBoth() {
        PaperBoxes x = withBox(9, 7, 4);
        x.sheet(0, 23, 13);
        due("it does, just so", 0, x.shortBy(0, 0, 0, 0));
        x.sheet(0, 22, 150);
        due("ROUND one short, LONG more than enough", 1, x.shortBy(0, 0, 0, 0));
        due("turned, it does", 0, x.shortBy(0, 0, 0, 1));
        x.sheet(0, 150, 12);
        due("LONG one short, ROUND more than enough", 1, x.shortBy(0, 0, 0, 0));
        due("turned", 11, x.shortBy(0, 0, 0, 1));
        x.sheet(0, 1, 1);
        due("both short", 22 + 12, x.shortBy(0, 0, 0, 0));
        due("both short", 22 + 12, x.shortBy(0, 0, 0, 1));
        due("both short by 1", 26 + 10, x.shortBy(0, 0, 1, 0));
        due("both short by 2", 32 + 10, x.shortBy(0, 0, 2, 1));
        x.box(0, 20, 20, 20);
        settings(x, 9, 9);
        due("short by most", 88 + 57, x.shortBy(0, 0, 0, 0));
    }

    // ======== slant, promises 16 to 18

    private static void slant() {
        slantOfEachSum();
        slantByEachAxis();
        slantSheets();
        savedAroundNothing();
    }

    /** q for each sum of u and the height, 2 to 40, from the least whose square is enough. */
    private static void slantOfEachSum() {
        for (int sum = 2; sum <= 40; sum++) {
            int side = Math.min(20, sum - 1);
            int height = sum - side;
            int q = 1;
            while (q * q < 2 * sum * sum) {
                q++;
            }
            due("SLANT of " + sum, q, withBox(side, side, height).slant(0, 2));
            due("SLANT of " + sum, q, withBox(height, side, side).slant(0, 0));
        }
        due("the least q", 3, withBox(1, 1, 1).slant(0, 0));
        due("the greatest q", 57, withBox(20, 20, 20).slant(0, 1));
    }

    private static void slantByEachAxis() {
        int[][] boxes = {{2, 5, 5}, {5, 2, 5}, {5, 5, 2}};
        for (int box = 0; box < 3; box++) {
            PaperBoxes x = withBox(boxes[box][0], boxes[box][1], boxes[box][2]);
            settings(x, 9, 9);
            for (int axis = 0; axis < 3; axis++) {
                due("the others alike or not", axis == box ? 10 : NONE, x.slant(0, axis));
            }
        }
        PaperBoxes x = withBox(4, 5, 6);
        for (int axis = 0; axis < 3; axis++) {
            due("none alike", NONE, x.slant(0, axis));
            due("alike by all", 12, withBox(4, 4, 4).slant(0, axis));
        }
    }

    private static void slantSheets() {
        PaperBoxes x = withBox(2, 5, 5);
        x.sheet(0, 10, 10);
        due("both sides are q", 1, x.slants(0, 0));
        x.sheet(0, 9, 150);
        due("WIDTH one less", 0, x.slants(0, 0));
        x.sheet(0, 150, 9);
        due("HEIGHT one less", 0, x.slants(0, 0));
        x.sheet(0, 150, 10);
        due("WIDTH more", 1, x.slants(0, 0));
        x.sheet(0, 150, 150);
        due("both more", 1, x.slants(0, 0));
        x.box(1, 4, 5, 6);
        due("by no AXIS", 0, x.slants(1, 0));
        x.box(2, 20, 20, 20);
        x.sheet(1, 57, 57);
        x.sheet(2, 56, 57);
        due("the greatest BOX", 1, x.slants(2, 1));
        due("the greatest BOX, one less", 0, x.slants(2, 2));
    }

    private static void savedAroundNothing() {
        PaperBoxes x = withBox(2, 2, 2);
        due("SAVED is 0", 100000, x.saved(0));
        x.set(0, 2);
        due("SAVED above 0", 100000 + 40 - 36, x.saved(0));
        x.set(0, 0);
        due("SAVED below 0", 100000 + 32 - 36, x.saved(0));
        x.box(0, 2, 2, 3);
        x.box(1, 2, 3, 4);
        due("by one AXIS", 100000 + 40 - 64, x.saved(0));
        due("by no AXIS", NONE, x.saved(1));
        x.box(0, 20, 20, 20);
        settings(x, 9, 9);
        due("SAVED most", 100000 + 5162 - 3249, x.saved(0));
    }

    // ======== rolls, promises 19 to 21

    private static void rolls() {
        rollJustSo();
        rollTheFirst();
        rollsByEachOrderOfSides();
        cheaperAlikeOrNot();
        narrowJustSo();
    }

    /** By a 23 round and 13 long, by b 27 and 11, by c 33 and 11. */
    private static void rollJustSo() {
        PaperBoxes x = withBox(9, 7, 4);
        int[][] byWidth = {{1, NONE, NONE, NONE}, {10, NONE, NONE, NONE}, {11, 27, 1, 0}, {12, 27, 1, 0},
            {13, 23, 0, 0}, {22, 23, 0, 0}, {23, 13, 0, 1}, {26, 13, 0, 1}, {27, 11, 1, 1}, {32, 11, 1, 1},
            {33, 11, 1, 1}, {150, 11, 1, 1}};
        for (int[] row : byWidth) {
            for (int what = 0; what < 3; what++) {
                due("ROLL of " + row[0] + " what " + what, row[1 + what], x.roll(0, row[0], what));
            }
        }
        due("width 0", OUTSIDE, x.roll(0, 0, 0));
        due("width 151", OUTSIDE, x.roll(0, 151, 0));
        x.box(0, 1, 1, 1);
        settings(x, 0, 0);
        due("the least BOX, width 1", NONE, x.roll(0, 1, 0));
        due("the least BOX, width 2", 4, x.roll(0, 2, 0));
        due("the least BOX, width 3", 4, x.roll(0, 3, 0));
        due("the least BOX, width 4", 2, x.roll(0, 4, 0));
        x.box(0, 20, 20, 20);
        settings(x, 9, 9);
        due("the greatest BOX, width 57", NONE, x.roll(0, 57, 0));
        due("the greatest BOX, width 58", 89, x.roll(0, 58, 0));
        due("the greatest BOX, width 88", 89, x.roll(0, 88, 0));
        due("the greatest BOX, width 89", 58, x.roll(0, 89, 0));
    }

    private static void rollTheFirst() {
        PaperBoxes x = withBox(1, 1, 1);
        settings(x, 0, 1);
        due("ROUND and LONG alike: the first TURN", 0, x.roll(0, 4, 2));
        due("all alike: the first AXIS", 0, x.roll(0, 4, 1));
        due("one less", NONE, x.roll(0, 3, 0));
        x.box(0, 1, 1, 2);
        due("alike: the length", 4, x.roll(0, 6, 0));
        due("alike: the first AXIS ahead of the first TURN", 0, x.roll(0, 6, 1));
        due("alike: the first AXIS ahead of the first TURN", 1, x.roll(0, 6, 2));
        due("only the last AXIS", 4, x.roll(0, 5, 0));
        due("only the last AXIS", 2, x.roll(0, 5, 1));
        due("only the last AXIS", 0, x.roll(0, 5, 2));
        x.box(0, 1, 3, 3);
        settings(x, 1, 0);
        due("1 and 2 alike: the first", 1, x.roll(0, 4, 1));
    }

    /** Each width and each length, by trying out all AXES and TURNS, so that each of these is once the only one. */
    private static void rollsByEachOrderOfSides() {
        int[][] boxes = {{9, 7, 4}, {9, 4, 7}, {7, 9, 4}, {7, 4, 9}, {4, 9, 7}, {4, 7, 9}};
        for (int[] box : boxes) {
            PaperBoxes x = withBox(box[0], box[1], box[2]);
            int[] along = new int[6];
            int[] across = new int[6];
            for (int way = 0; way < 6; way++) {
                along[way] = x.need(0, way / 2, way % 2);
                across[way] = x.need(0, way / 2, 1 - way % 2);
            }
            for (int width = 1; width <= 150; width++) {
                int best = firstLeast(along, across, width);
                due("ROLL of " + width, best < 0 ? NONE : along[best], x.roll(0, width, 0));
                due("ROLL of " + width + ": the AXIS", best < 0 ? NONE : best / 2, x.roll(0, width, 1));
                due("ROLL of " + width + ": the TURN", best < 0 ? NONE : best % 2, x.roll(0, width, 2));
            }
            PaperBoxes y = withBox(box[0], box[1], box[2]);
            for (int length = 1; length <= 300; length++) {
                int best = firstLeast(across, along, length);
                due("NARROW for " + length, best < 0 ? NONE : across[best], y.narrow(0, length));
            }
        }
    }

    /** The first place of the least number whose bounded one is no more than the bound, or -1. */
    private static int firstLeast(int[] numbers, int[] bounded, int bound) {
        int best = -1;
        for (int i = 0; i < numbers.length; i++) {
            if (bounded[i] <= bound && (best < 0 || numbers[i] < numbers[best])) {
                best = i;
            }
        }
        return best;
    }

    private static void cheaperAlikeOrNot() {
        PaperBoxes x = withBox(9, 7, 4);
        due("alike: the first", 0, x.cheaper(0, 23, 27, 11, 13, 0));
        due("alike: how much", 351, x.cheaper(0, 23, 27, 11, 13, 1));
        due("one pence less for the other", 1, x.cheaper(0, 23, 27, 11, 12, 0));
        due("one pence less for the other", 324, x.cheaper(0, 23, 27, 11, 12, 1));
        due("one pence less for the first", 0, x.cheaper(0, 23, 26, 11, 13, 0));
        due("one pence less for the first", 338, x.cheaper(0, 23, 26, 11, 13, 1));
        due("both for nothing", 0, x.cheaper(0, 11, 0, 150, 0, 0));
        due("both for nothing", 0, x.cheaper(0, 11, 0, 150, 0, 1));
        due("the other for nothing", 1, x.cheaper(0, 11, 1, 11, 0, 0));
        due("the other for nothing", 0, x.cheaper(0, 11, 1, 11, 0, 1));
        due("the first is too narrow, for nothing", 1, x.cheaper(0, 10, 0, 11, 99, 0));
        due("the first is too narrow, for nothing", 2673, x.cheaper(0, 10, 0, 11, 99, 1));
        due("the other is too narrow, for nothing", 0, x.cheaper(0, 11, 99, 10, 0, 0));
        due("the other is too narrow, for nothing", 2673, x.cheaper(0, 11, 99, 10, 0, 1));
        due("both are too narrow", NONE, x.cheaper(0, 10, 1, 10, 1, 0));
        due("both are too narrow", NONE, x.cheaper(0, 1, 0, 1, 0, 1));
        x.box(0, 20, 20, 20);
        settings(x, 9, 9);
        due("most pence", 89 * 99, x.cheaper(0, 58, 99, 88, 99, 1));
    }

    private static void narrowJustSo() {
        PaperBoxes x = withBox(9, 7, 4);
        int[][] byLength = {{1, NONE}, {10, NONE}, {11, 27}, {12, 27}, {13, 23}, {22, 23}, {23, 13}, {26, 13},
            {27, 11}, {32, 11}, {33, 11}, {300, 11}};
        for (int[] row : byLength) {
            due("NARROW for " + row[0], row[1], x.narrow(0, row[0]));
        }
        due("length 0", OUTSIDE, x.narrow(0, 0));
        due("length 301", OUTSIDE, x.narrow(0, 301));
        x.box(0, 20, 20, 20);
        settings(x, 9, 9);
        due("the greatest BOX", NONE, x.narrow(0, 57));
        due("the greatest BOX", 89, x.narrow(0, 58));
        due("the greatest BOX", 89, x.narrow(0, 88));
        due("the greatest BOX", 58, x.narrow(0, 89));
    }

    // ======== pieces, promise 22

    private static void pieces() {
        piecesNoneOneAll();
        piecesGiveTheGreaterSide();
        piecesLeastAsBits();
    }

    /** By a: LONG 13, 22 round and LAP for each. */
    private static void piecesNoneOneAll() {
        PaperBoxes x = withBox(9, 7, 4);
        due("no SHEET there", NONE, x.pieces(0, 0, 0));
        due("no SHEET there", NONE, x.pieces(0, 0, 1));
        x.sheet(5, 23, 13);
        due("one, just so", 1, x.pieces(0, 0, 0));
        due("one, just so", 32, x.pieces(0, 0, 1));
        x.sheet(5, 22, 13);
        due("one, one short", NONE, x.pieces(0, 0, 0));
        x.sheet(5, 23, 12);
        due("one, LONG one short", NONE, x.pieces(0, 0, 0));
        x.sheet(5, 1, 1);
        due("the least SHEET", NONE, x.pieces(0, 0, 0));
        x.set(0, 2);
        for (int i = 0; i < 6; i++) {
            x.sheet(i, 13, i < 4 ? 6 : 5);
        }
        due("all six, just so: 34 of 34", 6, x.pieces(0, 0, 0));
        due("all six, just so: 34 of 34", 63, x.pieces(0, 0, 1));
        x.sheet(3, 13, 5);
        due("all six, one short", NONE, x.pieces(0, 0, 0));
        due("all six, one short", NONE, x.pieces(0, 0, 1));
        x.sheet(3, 8, 13);
        due("all six, two more: still six", 63, x.pieces(0, 0, 1));
        x.sheet(3, 13, 9);
        due("five do", 5, x.pieces(0, 0, 0));
        x.set(0, 9);
        due("LAPS are more than what each gives", NONE, x.pieces(0, 0, 0));
    }

    private static void piecesGiveTheGreaterSide() {
        PaperBoxes x = withBox(9, 7, 4);
        x.sheet(0, 13, 23);
        due("both can: the greater one", 1, x.pieces(0, 0, 1));
        x.sheet(0, 12, 150);
        x.sheet(1, 11, 13);
        due("only the lesser one can: 12 and 11 of 24", NONE, x.pieces(0, 0, 0));
        x.sheet(1, 12, 13);
        due("only the lesser one can: 12 and 12 of 24", 3, x.pieces(0, 0, 1));
        x.sheet(1, 12, 12);
        due("neither can", NONE, x.pieces(0, 0, 0));
        x.set(0, 0);
        x.sheet(0, 13, 21);
        x.sheet(1, 1, 13);
        due("the least that a SHEET gives is 1: 21 and 1 of 22", 3, x.pieces(0, 0, 1));
    }

    private static void piecesLeastAsBits() {
        PaperBoxes x = withBox(9, 7, 4);
        for (int i = 0; i < 6; i++) {
            x.sheet(i, 13, 12);
        }
        due("all alike: the fewest", 2, x.pieces(0, 0, 0));
        due("all alike: least as bits", 3, x.pieces(0, 0, 1));
        x.sheet(0, 13, 1);
        due("without the first", 6, x.pieces(0, 0, 1));
        x.drop(2, 1);
        due("without one that has gone", 12, x.pieces(0, 0, 1));
        x.sheet(5, 13, 23);
        due("the fewest ahead of the least", 32, x.pieces(0, 0, 1));
        x.sheet(5, 13, 22);
        due("0 and 5 are 33 as bits, 2 and 3 are 12", 12, x.pieces(0, 0, 1));
    }

    // ======== cuts, promises 23 and 24

    private static void cuts() {
        cutNoneOneFour();
        cutStraightThrough();
        cutFourInARow();
        cutThreeByEachFirst();
        cutFourByEachFirst();
        mostNoneToFour();
        mostLeastAsBits();
    }

    /** By a LAP of 0 and an EDGE of 0 a cube of s takes 4 s by 2 s. */
    private static PaperBoxes cubes(int... sides) {
        PaperBoxes x = new PaperBoxes();
        x.set(0, 0);
        for (int i = 0; i < sides.length; i++) {
            x.box(i, sides[i], sides[i], sides[i]);
        }
        return x;
    }

    private static void cutNoneOneFour() {
        PaperBoxes x = cubes(1, 1, 1, 1, 1, 1);
        x.sheet(0, 1, 1);
        due("the empty set", 1, x.cut(0, 0));
        for (int box = 0; box < 6; box++) {
            x.sheet(0, 4, 2);
            due("one, just so", 1, x.cut(1 << box, 0));
            x.sheet(0, 2, 4);
            due("one, turned", 1, x.cut(1 << box, 0));
            x.sheet(0, 3, 3);
            due("one, as much paper, but too narrow", 0, x.cut(1 << box, 0));
        }
        x.sheet(0, 8, 4);
        due("four, just so", 1, x.cut(60, 0));
        due("four, just so", 1, x.cut(15, 0));
        due("five", FULL, x.cut(31, 0));
        due("six", FULL, x.cut(63, 0));
        due("a number that no BOX has", OUTSIDE, x.cut(64, 0));
        due("a number that no BOX has, with four", OUTSIDE, x.cut(15 + 64, 0));
        due("OUTSIDE ahead of FULL", OUTSIDE, x.cut(127, 0));
        due("the greatest int", OUTSIDE, x.cut(MAX, 0));
        due("the least int", OUTSIDE, x.cut(MIN, 0));
        x.drop(0, 5);
        due("a BOX that has gone", OUTSIDE, x.cut(60, 0));
        due("a BOX that has gone, OUTSIDE ahead of FULL", OUTSIDE, x.cut(63, 0));
        due("UNKNOWN ahead of OUTSIDE", UNKNOWN, x.cut(63, 1));
        due("UNKNOWN ahead of FULL", UNKNOWN, x.cut(31, 1));
        x.sheet(0, 8, 3);
        due("four, one short", 0, x.cut(15, 0));
        x.sheet(0, 7, 4);
        due("four, one short", 0, x.cut(15, 0));
    }

    private static void cutStraightThrough() {
        // pieces of 16 by 26 turn round a middle of 10 by 10
        PaperBoxes x = new PaperBoxes();
        settings(x, 0, 9);
        boxes(x, 4, 4, 4, 4, 4, 4, 4, 4, 4, 4, 4, 4);
        x.sheet(0, 42, 42);
        due("a wheel of four is not cut straight through", 0, x.cut(15, 0));
        x.sheet(0, 42, 48);
        due("three beside one another above a fourth", 1, x.cut(15, 0));
        x.sheet(0, 42, 47);
        due("one short", 0, x.cut(15, 0));
        // 4 by 2, 8 by 4, 12 by 6, 16 by 8
        PaperBoxes y = cubes(1, 2, 3, 4);
        y.sheet(0, 20, 12);
        due("240 is the paper of all four, but no cuts leave nothing", 0, y.cut(15, 0));
        y.sheet(0, 20, 14);
        due("8 by 16, 6 by 12, and a strip of 4 by 14", 1, y.cut(15, 0));
        y.sheet(0, 14, 20);
        due("the other way", 1, y.cut(15, 0));
        y.sheet(0, 19, 14);
        due("one short", 0, y.cut(15, 0));
        y.sheet(0, 20, 13);
        due("one short", 0, y.cut(15, 0));
        y.sheet(0, 16, 8);
        due("the greatest alone", 1, y.cut(8, 0));
        due("two", 0, y.cut(9, 0));
    }

    private static void cutIs(String what, PaperBoxes x, int set, int width, int height, int want) {
        x.sheet(0, width, height);
        due(what + " from " + width + " by " + height, want, x.cut(set, 0));
        x.sheet(0, height, width);
        due(what + " from " + height + " by " + width, want, x.cut(set, 0));
    }

    /** Pieces of 16 by 26, from a SHEET that can be parted one way alone. */
    private static void cutFourInARow() {
        PaperBoxes x = new PaperBoxes();
        settings(x, 0, 9);
        boxes(x, 4, 4, 4, 4, 4, 4, 4, 4, 4, 4, 4, 4);
        cutIs("four in a row, just so,", x, 15, 26, 64, 1);
        cutIs("four in a row, one more each way,", x, 15, 27, 65, 1);
        cutIs("four in a row, one short,", x, 15, 26, 63, 0);
        cutIs("four in a row, too narrow,", x, 15, 25, 64, 0);
        cutIs("four end to end, just so,", x, 15, 16, 104, 1);
        cutIs("four end to end, one more each way,", x, 15, 17, 105, 1);
        cutIs("four end to end, one short,", x, 15, 16, 103, 0);
        cutIs("from the greatest SHEET,", x, 15, 150, 150, 1);
        cutIs("from the least SHEET,", x, 15, 1, 1, 0);
    }

    /** By an EDGE of 1 a cube of s takes 4 s by 2 s and 2: here 4 by 4 twice, and 8 by 6, which must be first. */
    private static void cutThreeByEachFirst() {
        int[][] orders = {{2, 1, 1}, {1, 2, 1}, {1, 1, 2}};
        for (int[] order : orders) {
            PaperBoxes x = cubes(order);
            x.set(1, 1);
            cutIs("8 by 6 beside two of 4 by 4", x, 7, 10, 8, 1);
            cutIs("8 by 6 beside two of 4 by 4, one short,", x, 7, 9, 8, 0);
            cutIs("8 by 6 beside two of 4 by 4, one short,", x, 7, 10, 7, 0);
        }
    }

    /** 4 by 4, 8 by 6, 12 by 8, 16 by 10 as BOXES in each order: the first cut must part just these. */
    private static void cutFourByEachFirst() {
        for (int order = 0; order < 256; order++) {
            int[] sides = {1 + order % 4, 1 + order / 4 % 4, 1 + order / 16 % 4, 1 + order / 64};
            int found = 0;
            for (int side : sides) {
                found |= 1 << side;
            }
            if (found == 30) {
                PaperBoxes x = cubes(sides);
                x.set(1, 1);
                cutIs("the first and the last, the two others,", x, 15, 18, 20, 1);
                cutIs("the first and the last, the two others, one short,", x, 15, 17, 20, 0);
                cutIs("the first and the last, the two others, one short,", x, 15, 18, 19, 0);
                cutIs("three, and the greatest,", x, 15, 16, 22, 1);
                cutIs("three, and the greatest, one short,", x, 15, 15, 22, 0);
                cutIs("three, and the greatest, one short,", x, 15, 16, 21, 0);
            }
        }
    }

    private static void mostNoneToFour() {
        PaperBoxes x = new PaperBoxes();
        x.set(0, 0);
        x.sheet(0, 1, 1);
        due("no BOX there", 0, x.most(0, 0));
        due("no BOX there", 0, x.most(0, 1));
        due("no BOX there: all is left", 1, x.most(0, 2));
        for (int i = 0; i < 6; i++) {
            x.box(i, 1, 1, 1);
        }
        due("too small for any", 0, x.most(0, 0));
        due("too small for any", 0, x.most(0, 1));
        due("too small for any: all is left", 1, x.most(0, 2));
        int[][] sheets = {{4, 2}, {4, 4}, {4, 6}, {8, 4}, {8, 6}, {150, 150}};
        int[] most = {1, 2, 3, 4, 4, 4};
        for (int i = 0; i < sheets.length; i++) {
            x.sheet(0, sheets[i][0], sheets[i][1]);
            due("how many", most[i], x.most(0, 0));
            due("least as bits", (1 << most[i]) - 1, x.most(0, 1));
            due("left", sheets[i][0] * sheets[i][1] - 8 * most[i], x.most(0, 2));
        }
        x.sheet(0, 4, 3);
        due("one, and some is left", 1, x.most(0, 0));
        due("one, and some is left", 4, x.most(0, 2));
    }

    private static void mostLeastAsBits() {
        PaperBoxes x = cubes(3, 1, 2, 1, 2, 1);
        x.sheet(0, 12, 6);
        due("three small and a middle one, not the great one", 46, x.most(0, 1));
        due("three small and a middle one, not the great one", 72 - 24 - 32, x.most(0, 2));
        x.sheet(0, 4, 2);
        due("the first that can", 2, x.most(0, 1));
        x.sheet(0, 4, 4);
        due("two small", 10, x.most(0, 1));
        x.sheet(0, 6, 4);
        due("three small", 42, x.most(0, 1));
        x.sheet(0, 8, 4);
        due("more BOXES ahead of less left", 42, x.most(0, 1));
        due("more BOXES ahead of less left", 32 - 24, x.most(0, 2));
        x.sheet(0, 10, 4);
        due("a small and a middle one: 6 as bits; three small do", 42, x.most(0, 1));
        x.sheet(0, 12, 4);
        due("a middle one with two small: 14 as bits", 14, x.most(0, 1));
        due("a middle one with two small", 48 - 32 - 16, x.most(0, 2));
        x.sheet(0, 14, 4);
        due("a middle one with three small: 46 as bits", 46, x.most(0, 1));
        x.drop(0, 1);
        due("without one that has gone", 44, x.most(0, 1));
    }

    // ======== used up, promise 25

    private static void usedUp() {
        usedUpNothing();
        usedUpAllSix();
        usedUpPassedOver();
        usedUpSheetsAlike();
    }

    private static void usedUpNothing() {
        PaperBoxes x = new PaperBoxes();
        due("an empty set, nothing there", 0, x.usedUp(0, -1));
        due("an empty set has no order", NONE, x.usedUp(0, 0));
        due("a BOX that is not there", OUTSIDE, x.usedUp(1, -1));
        due("a number that no BOX has", OUTSIDE, x.usedUp(64, -1));
        due("the least int", OUTSIDE, x.usedUp(MIN, -1));
        due("the greatest int", OUTSIDE, x.usedUp(MAX, 0));
        x.box(4, 1, 1, 1);
        due("no SHEET there", 0, x.usedUp(16, -1));
        due("no SHEET there: in the order all the same", 4, x.usedUp(16, 0));
        due("behind the order", NONE, x.usedUp(16, 1));
        due("ahead of the order", NONE, x.usedUp(16, -2));
        due("the least int", NONE, x.usedUp(16, MIN));
        due("the greatest int", NONE, x.usedUp(16, MAX));
        x.sheet(3, 150, 150);
        due("one and one", 1, x.usedUp(16, -1));
        due("an empty set, some there", 0, x.usedUp(0, -1));
        due("an empty set, some there", NONE, x.usedUp(0, 0));
    }

    private static void usedUpAllSix() {
        PaperBoxes x = new PaperBoxes();
        x.set(0, 0);
        for (int i = 0; i < 6; i++) {
            x.box(i, 1, 1, 1 + i);
        }
        for (int i = 0; i < 6; i++) {
            due("all six, " + i + " SHEETS", i, x.usedUp(63, -1));
            for (int place = 0; place < 6; place++) {
                due("all six in their order", place, x.usedUp(63, place));
            }
            due("behind the order", NONE, x.usedUp(63, 6));
            x.sheet(i, 150, 150);
        }
        due("all six, six SHEETS", 6, x.usedUp(63, -1));
        due("the SHEETS stay", 63, x.told(3));
    }

    /** The cube of 1 takes 4 by 2, the flat BOX 6 by 3, the cube of 3 12 by 6. */
    private static void usedUpPassedOver() {
        PaperBoxes x = new PaperBoxes();
        x.set(0, 0);
        boxes(x, 3, 3, 3, 1, 1, 1, 2, 2, 1);
        // the small cube would take 8 by 3, the only one for the flat BOX, ahead of 13 by 2
        sheets(x, 12, 6, 8, 3, 13, 2);
        usedUpIs("the small cube last", x, 7, 3, 0, 2, 1);
        x.drop(2, 2);
        usedUpIs("two SHEETS: the last is passed over", x, 7, 2, 0, 1, 2);
        x.sheet(2, 13, 2);
        x.drop(2, 0);
        usedUpIs("none for the first: it is passed over", x, 7, 2, 0, 2, 1);
        usedUpIs("two of them", x, 6, 2, 2, 1);
        x.drop(2, 2);
        usedUpIs("one SHEET: the first by BOXES", x, 7, 1, 0, 1, 2);
        x.sheet(1, 3, 3);
        usedUpIs("a SHEET that does for none", x, 7, 0, 0, 1, 2);
    }

    private static void usedUpIs(String what, PaperBoxes x, int set, int wrapped, int... order) {
        due(what, wrapped, x.usedUp(set, -1));
        for (int i = 0; i < order.length; i++) {
            due(what, order[i], x.usedUp(set, i));
        }
        due(what, NONE, x.usedUp(set, order.length));
    }

    /** 8 by 3 does for both, 12 by 2 for the cube alone, and their areas are alike. */
    private static void usedUpSheetsAlike() {
        PaperBoxes x = new PaperBoxes();
        x.set(0, 0);
        boxes(x, 1, 1, 1, 2, 2, 1);
        sheets(x, 8, 3, 12, 2);
        usedUpIs("the cube takes the first SHEET, so it must come last", x, 3, 2, 1, 0);
        sheets(x, 12, 2, 8, 3);
        usedUpIs("the cube takes the first SHEET, so it may come first", x, 3, 2, 0, 1);
    }

    // ======== patterns and ribbons, promises 26 to 29

    private static void patternsAndRibbons() {
        pleatsByPeriod();
        matches();
        ribbonsAtTheEnds();
        cornersAtTheEnds();
    }

    private static void pleatsByPeriod() {
        PaperBoxes x = withBox(1, 2, 3);
        for (int period = 1; period <= 40; period++) {
            x.set(2, period);
            int[] round = {10, 8, 6};
            for (int axis = 0; axis < 3; axis++) {
                int more = 0;
                while ((round[axis] + more) % period != 0) {
                    more++;
                }
                due("PLEAT of " + round[axis] + " by " + period, more, x.pleat(0, axis));
            }
        }
        x.box(0, 20, 20, 20);
        x.set(2, 40);
        due("the greatest BOX, a whole number of PERIODS", 0, x.pleat(0, 0));
        x.set(2, 39);
        due("the greatest BOX, one PERIOD less", 37, x.pleat(0, 0));
        x.set(0, 9);
        due("LAP is not looked at", 37, x.pleat(0, 0));
    }

    private static void matches() {
        // 2 times (u and v): 10, 8, 6
        PaperBoxes x = withBox(1, 2, 3);
        int[][] bits = {{1, 7}, {2, 7}, {3, 4}, {4, 2}, {5, 1}, {6, 4}, {7, 0}, {8, 2}, {9, 0}, {10, 1}, {40, 0}};
        for (int[] row : bits) {
            x.set(2, row[0]);
            due("MATCH by " + row[0], row[1], x.match(0));
        }
        x.box(0, 1, 2, 2);
        x.set(2, 6);
        due("two of three", 6, x.match(0));
        x.box(0, 2, 1, 2);
        due("two of three", 5, x.match(0));
        x.box(0, 2, 2, 1);
        due("two of three", 3, x.match(0));
    }

    private static void ribbonsAtTheEnds() {
        PaperBoxes x = withBox(1, 1, 1);
        due("the least, KNOT at first", 18, x.ribbon(0, 0));
        x.set(3, 0);
        due("the least", 8, x.ribbon(0, 0));
        x.box(0, 1, 5, 20);
        due("by a", 2 * (5 + 20 + 2), x.ribbon(0, 0));
        due("by b", 2 * (1 + 20 + 10), x.ribbon(0, 1));
        due("by c", 2 * (1 + 5 + 40), x.ribbon(0, 2));
        settings(x, 9, 9);
        due("LAP and EDGE are not looked at", 92, x.ribbon(0, 2));
        x.set(3, 60);
        x.box(0, 20, 20, 20);
        due("the greatest", 220, x.ribbon(0, 1));
    }

    private static void cornersAtTheEnds() {
        PaperBoxes x = withBox(1, 1, 1);
        x.set(3, 0);
        // 4 times 8
        due("the least", 6, x.corners(0, 0, 0));
        due("the least, hundredths", 565, x.corners(0, 0, 1));
        // 3 and 4: the square is 100
        x.box(0, 1, 2, 2);
        due("a whole length needs no more", 10, x.corners(0, 1, 0));
        due("a whole length", 1000, x.corners(0, 1, 1));
        // a upright: 3 and 3, 72
        due("not whole: one more", 9, x.corners(0, 0, 0));
        due("not whole: cut", 848, x.corners(0, 0, 1));
        x.box(0, 20, 20, 20);
        x.set(3, 60);
        due("the greatest", 114 + 60, x.corners(0, 2, 0));
        due("the greatest, without KNOT", 11313, x.corners(0, 2, 1));
        x.box(0, 2, 9, 13);
        // by a 11 and 15, 1384; by b 11 and 22, 2420; by c 15 and 22, 2836
        int[] ribbon = {38, 50, 54};
        int[] hundredths = {3720, 4919, 5325};
        for (int axis = 0; axis < 3; axis++) {
            due("by " + axis, ribbon[axis] + 60, x.corners(0, axis, 0));
            due("by " + axis, hundredths[axis], x.corners(0, axis, 1));
        }
    }

    // ======== things, promises 30 to 32

    private static void things() {
        fitsInEachOrder();
        tightTheFirst();
        pairedNoneOneAll();
        pairedTheFirst();
    }

    private static void fitsInEachOrder() {
        int[][] orders = {{0, 1, 2}, {0, 2, 1}, {1, 0, 2}, {1, 2, 0}, {2, 0, 1}, {2, 1, 0}};
        int[] sides = {3, 7, 12};
        for (int[] t : orders) {
            for (int[] b : orders) {
                PaperBoxes x = withBox(sides[b[0]], sides[b[1]], sides[b[2]]);
                x.thing(0, sides[t[0]], sides[t[1]], sides[t[2]]);
                due("just so, in some order", 1, x.fits(0, 0));
                x.thing(0, sides[t[0]] + 1, sides[t[1]], sides[t[2]]);
                due("a one too great", 0, x.fits(0, 0));
                x.thing(0, sides[t[0]], sides[t[1]] + 1, sides[t[2]]);
                due("b one too great", 0, x.fits(0, 0));
                x.thing(0, sides[t[0]], sides[t[1]], sides[t[2]] + 1);
                due("c one too great", 0, x.fits(0, 0));
            }
        }
        PaperBoxes x = withBox(1, 1, 1);
        x.thing(0, 1, 1, 1);
        x.thing(1, 20, 20, 20);
        x.box(1, 20, 20, 20);
        due("the least in the least", 1, x.fits(0, 0));
        due("the least in the greatest", 1, x.fits(0, 1));
        due("the greatest in the least", 0, x.fits(1, 0));
        due("the greatest in the greatest", 1, x.fits(1, 1));
        x.thing(2, 5, 5, 5);
        x.box(2, 4, 20, 20);
        due("much room, but one side", 0, x.fits(2, 2));
        x.box(3, 4, 4, 20);
        due("much room, but two sides", 0, x.fits(2, 3));
        x.thing(3, 1, 8, 9);
        x.box(3, 7, 20, 7);
        due("much room, but the middle side", 0, x.fits(3, 3));
        x.box(3, 9, 2, 7);
        due("just so, but the middle side", 0, x.fits(3, 3));
        x.box(3, 8, 8, 8);
        due("much room, but the greatest side", 0, x.fits(3, 3));
    }

    private static void tightTheFirst() {
        PaperBoxes x = new PaperBoxes();
        x.thing(5, 2, 2, 2);
        due("no BOX there", NONE, x.tight(5));
        x.box(5, 1, 20, 20);
        due("none that it fits in", NONE, x.tight(5));
        x.box(5, 2, 2, 2);
        due("one that it fits in", 5, x.tight(5));
        for (int i = 4; i >= 0; i--) {
            x.box(i, 2, 2, 2);
            due("alike: the first", i, x.tight(5));
        }
        for (int i = 0; i < 6; i++) {
            x.box(i, 20, 20, 9 - i);
        }
        due("all six there: the least PAPER", 5, x.tight(5));
        x.box(5, 20, 20, 1);
        due("less PAPER, but it does not fit", 4, x.tight(5));
        // 3 by 3 by 3 is 78 by LAP 1, 2 by 2 by 5 is 63
        x.box(0, 3, 3, 3);
        x.box(1, 2, 2, 5);
        due("the PAPER of LEAST", 1, x.tight(5));
        x.set(1, 9);
        // 13 by 24 is 312, 9 by 25 is 225
        due("the PAPER of LEAST by EDGE", 1, x.tight(5));
    }

    private static void pairedNoneOneAll() {
        PaperBoxes x = new PaperBoxes();
        due("an empty set, nothing there", 0, x.paired(0, -1));
        for (int thing : new int[] {0, 5, 6, -2, MIN, MAX}) {
            due("a THING that is not of the empty set", UNKNOWN, x.paired(0, thing));
        }
        due("a THING that is not there", OUTSIDE, x.paired(1, -1));
        due("a number that no THING has", OUTSIDE, x.paired(64, -1));
        due("the least int", OUTSIDE, x.paired(MIN, 0));
        due("the greatest int", OUTSIDE, x.paired(MAX, MAX));
        x.thing(5, 1, 1, 1);
        due("no BOX there", NONE, x.paired(32, -1));
        due("no BOX there", NONE, x.paired(32, 5));
        due("UNKNOWN ahead of NONE", UNKNOWN, x.paired(32, 0));
        due("OUTSIDE ahead of UNKNOWN", OUTSIDE, x.paired(33, 3));
        x.box(2, 1, 1, 1);
        due("one and one", 10, x.paired(32, -1));
        due("one and one", 2, x.paired(32, 5));
        for (int i = 0; i < 6; i++) {
            x.thing(i, 1 + i, 1 + i, 1 + i);
            x.box(5 - i, 1 + i, 1 + i, 1 + i);
        }
        int sum = 0;
        for (int i = 0; i < 6; i++) {
            sum += x.least(i, 1);
        }
        due("all six, each in the one that fits", sum, x.paired(63, -1));
        for (int i = 0; i < 6; i++) {
            due("all six, each in the one that fits", 5 - i, x.paired(63, i));
        }
        x.thing(0, 2, 1, 1);
        due("six can not, as two need the same", NONE, x.paired(63, -1));
        due("five can", sum - 10, x.paired(62, -1));
        due("six can not", NONE, x.paired(63, 5));
        x.drop(1, 0);
        due("a THING that has gone", OUTSIDE, x.paired(63, -1));
    }

    private static void pairedTheFirst() {
        PaperBoxes x = new PaperBoxes();
        for (int i = 0; i < 6; i++) {
            x.box(i, 4, 4, 4);
            x.thing(i, 1, 1, 1);
        }
        for (int i = 0; i < 6; i++) {
            due("all alike: the least THING's first", i, x.paired(63, i));
        }
        due("three of them", 0, x.paired(52, 2));
        due("three of them", 1, x.paired(52, 4));
        due("three of them", 2, x.paired(52, 5));
        x.box(0, 5, 5, 5);
        due("least PAPER ahead of the first", 1, x.paired(52, 2));
        due("least PAPER ahead of the first", 2, x.paired(52, 4));
        due("least PAPER ahead of the first", 3, x.paired(52, 5));
        x.thing(2, 5, 1, 1);
        due("only one for the least THING", 0, x.paired(52, 2));
        due("only one for the least THING", 1, x.paired(52, 4));
        x.thing(4, 5, 5, 5);
        due("two for one BOX", NONE, x.paired(52, 2));
        due("a BOX of its own for each alone", 0, x.paired(16, 4));
        // the least THING's own least BOX is not the one by which all take least
        PaperBoxes y = new PaperBoxes();
        boxes(y, 2, 2, 2, 3, 3, 3, 9, 9, 9);
        y.thing(0, 2, 2, 2);
        y.thing(1, 1, 1, 1);
        y.thing(2, 3, 3, 3);
        due("least in all", 36 + 78, y.paired(3, -1));
        due("least in all, the first by BOXES", 0, y.paired(3, 0));
        due("least in all, the first by BOXES", 1, y.paired(3, 1));
        due("three in three", 0, y.paired(7, 0));
        due("three in three: the first by BOXES", 1, y.paired(7, 1));
        due("three in three: the first by BOXES", 2, y.paired(7, 2));
    }

    // ======== folds and creases, promises 33 to 36

    private static void folds() {
        marksOneToSix();
        hiddenFromXOn();
        hiddenByWidth();
        hiddenSixFolds();
    }

    private static void marksOneToSix() {
        int[] last = {150, 90};
        for (int sort = 0; sort < 2; sort++) {
            PaperBoxes x = new PaperBoxes();
            due("none to iron", 0, x.iron(sort));
            due("distance -1", OUTSIDE, x.mark(sort, -1));
            due("distance one beyond", OUTSIDE, x.mark(sort, last[sort] + 1));
            for (int i = 1; i <= 6; i++) {
                due("mark " + i, i, x.mark(sort, i % 2 == 0 ? 0 : last[sort]));
            }
            due("one mark more", FULL, x.mark(sort, 0));
            due("one mark more, OUTSIDE ahead", OUTSIDE, x.mark(sort, last[sort] + 1));
            due("six", 6, x.told(8 + sort));
            due("none of the other sort", 0, x.told(9 - sort));
            due("one of the other sort", 1, x.mark(1 - sort, 0));
            due("six to iron", 6, x.iron(sort));
            due("ironed", 0, x.told(8 + sort));
            due("the other sort stays", 1, x.told(9 - sort));
            due("room again", 1, x.mark(sort, 1));
        }
    }

    /** By a: ROUND is 11, LAP and u 4; so a fold is seen from 5 to 11 behind x. */
    private static void hiddenFromXOn() {
        PaperBoxes x = withBox(1, 3, 2);
        x.sheet(0, 61, 1);
        due("ROUND", 11, x.need(0, 0, 0));
        due("no FOLD: all x", 51, x.hidden(0, 0, 0, 0));
        due("no FOLD: the least", 0, x.hidden(0, 0, 0, 1));
        for (int fold = 0; fold <= 150; fold++) {
            x = withBox(1, 3, 2);
            x.sheet(0, 61, 1);
            x.mark(0, fold);
            int count = 0;
            int least = NONE;
            for (int from = 50; from >= 0; from--) {
                boolean isSeen = fold >= from && fold <= from + 11 && fold > from + 4;
                count += isSeen ? 0 : 1;
                least = isSeen ? least : from;
            }
            due("HIDDEN of a FOLD at " + fold, count, x.hidden(0, 0, 0, 0));
            due("the least x of a FOLD at " + fold, least, x.hidden(0, 0, 0, 1));
        }
    }

    private static void hiddenByWidth() {
        PaperBoxes x = withBox(1, 3, 2);
        x.sheet(0, 10, 150);
        due("WIDTH one less than ROUND", 0, x.hidden(0, 0, 0, 0));
        due("WIDTH one less than ROUND", NONE, x.hidden(0, 0, 0, 1));
        x.sheet(0, 11, 1);
        due("WIDTH is ROUND; LONG is not looked at", 1, x.hidden(0, 0, 0, 0));
        due("WIDTH is ROUND; LONG is not looked at", 0, x.hidden(0, 0, 0, 1));
        x.sheet(0, 12, 1);
        due("WIDTH one more than ROUND", 2, x.hidden(0, 0, 0, 0));
        x.sheet(0, 1, 1);
        due("the least WIDTH", 0, x.hidden(0, 0, 0, 0));
        x.sheet(0, 11, 1);
        int[][] byFold = {{0, 1}, {4, 1}, {5, 0}, {11, 0}, {12, 1}, {150, 1}};
        for (int[] row : byFold) {
            x.iron(0);
            x.mark(0, row[0]);
            due("x 0 alone, a FOLD at " + row[0], row[1], x.hidden(0, 0, 0, 0));
            due("x 0 alone, a FOLD at " + row[0], row[1] == 1 ? 0 : NONE, x.hidden(0, 0, 0, 1));
        }
        // u is the first of the two others: 3 by a, 1 by b, 1 by c
        int[] lapAndU = {4, 2, 2};
        for (int axis = 0; axis < 3; axis++) {
            int round = x.need(0, axis, 0);
            x.sheet(0, round, 1);
            x.iron(0);
            x.mark(0, lapAndU[axis]);
            due("LAP and u by " + axis, 1, x.hidden(0, axis, 0, 0));
            x.mark(0, lapAndU[axis] + 1);
            due("one beyond LAP and u by " + axis, 0, x.hidden(0, axis, 0, 0));
        }
        x.box(0, 20, 20, 20);
        x.set(0, 9);
        x.iron(0);
        x.sheet(0, 150, 150);
        due("the greatest BOX", 62, x.hidden(0, 0, 0, 0));
        x.mark(0, 150);
        // x and ROUND is 150 at 61 alone, and 150 is not beyond it
        due("the greatest BOX, a FOLD at 150", 61, x.hidden(0, 0, 0, 0));
    }

    private static void hiddenSixFolds() {
        PaperBoxes x = withBox(1, 3, 2);
        x.sheet(0, 100, 1);
        int[] folds = {20, 0, 27, 34, 41, 20};
        for (int fold : folds) {
            x.mark(0, fold);
        }
        // seen for x from 9 to 15, 16 to 22, 23 to 29, 30 to 36
        due("six FOLDS", 90 - 28, x.hidden(0, 0, 0, 0));
        due("six FOLDS: the least", 0, x.hidden(0, 0, 0, 1));
        x.iron(0);
        for (int fold : new int[] {6, 13, 20, 27, 34, 100}) {
            x.mark(0, fold);
        }
        // seen for x to 1, 2 to 8, 9 to 15, 16 to 22, 23 to 29, and from 89 on
        due("six FOLDS to the end", 59, x.hidden(0, 0, 0, 0));
        due("six FOLDS to the end: the least", 30, x.hidden(0, 0, 0, 1));
        x.mark(0, 50);
        due("a seventh counts for nothing", 59, x.hidden(0, 0, 0, 0));
    }

    private static void creases() {
        undoneNoCrease();
        undoneByRound();
        undoneOneCrease();
        undoneSixCreases();
    }

    private static void undoneNoCrease() {
        PaperBoxes x = new PaperBoxes();
        due("no CREASE, r not told", 400, x.undone(0, 0));
        due("no CREASE, r not told: the first", 101, x.undone(0, 1));
        x.mark(0, 7);
        due("FOLDS are no CREASES", 400, x.undone(0, 0));
    }

    private static void undoneByRound() {
        for (int lap = 0; lap <= 9; lap++) {
            PaperBoxes x = new PaperBoxes();
            x.set(0, lap);
            for (int r = 1; r <= 89; r++) {
                int count = 0;
                int first = NONE;
                for (int u = 20; u >= 1; u--) {
                    int v = (r - lap) / 2 - u;
                    if ((r - lap) % 2 == 0 && v >= 1 && v <= 20) {
                        count++;
                        first = 100 * u + v;
                    }
                }
                due("r " + r + " by LAP " + lap, count, x.undone(r, 0));
                due("r " + r + " by LAP " + lap + ": the first", first, x.undone(r, 1));
            }
        }
        PaperBoxes x = new PaperBoxes();
        x.set(0, 9);
        due("the greatest r", 1, x.undone(89, 0));
        due("the greatest r", 2020, x.undone(89, 1));
        due("r 90", OUTSIDE, x.undone(90, 0));
        due("r -1", OUTSIDE, x.undone(-1, 0));
    }

    /** Each distance, counted by trying out all u and v. */
    private static void undoneOneCrease() {
        for (int lap = 0; lap <= 9; lap += 3) {
            for (int crease = 0; crease <= 90; crease++) {
                PaperBoxes x = new PaperBoxes();
                x.set(0, lap);
                x.mark(1, crease);
                int count = 0;
                int first = NONE;
                for (int at = 399; at >= 0; at--) {
                    int u = 1 + at / 20;
                    int v = 1 + at % 20;
                    if (crease == lap || crease == lap + u || crease == lap + u + v || crease == lap + u + v + u) {
                        count++;
                        first = 100 * u + v;
                    }
                }
                due("a CREASE at " + crease + " by LAP " + lap, count, x.undone(0, 0));
                due("a CREASE at " + crease + " by LAP " + lap + ": the first", first, x.undone(0, 1));
            }
        }
        PaperBoxes x = new PaperBoxes();
        x.mark(1, 0);
        due("a CREASE ahead of LAP", 0, x.undone(0, 0));
        due("a CREASE ahead of LAP", NONE, x.undone(0, 1));
        x.set(0, 0);
        due("a CREASE at a LAP of 0", 400, x.undone(0, 0));
        x.iron(1);
        x.mark(1, 60);
        due("the last CREASE there can be", 1, x.undone(0, 0));
        due("the last CREASE there can be", 2020, x.undone(0, 1));
        x.mark(1, 61);
        due("one beyond", 0, x.undone(0, 0));
    }

    private static void undoneSixCreases() {
        PaperBoxes x = new PaperBoxes();
        for (int crease : new int[] {15, 1, 6, 10, 6, 1}) {
            x.mark(1, crease);
        }
        due("six CREASES, two of them twice", 1, x.undone(0, 0));
        due("six CREASES, two of them twice", 504, x.undone(0, 1));
        due("and r", 1, x.undone(19, 0));
        due("and another r", 0, x.undone(21, 0));
        due("and another r", NONE, x.undone(21, 1));
        x.mark(1, 2);
        due("a seventh counts for nothing", 1, x.undone(0, 0));
        x.iron(1);
        for (int crease : new int[] {1, 6, 10, 15, 16, 1}) {
            x.mark(1, crease);
        }
        due("five distances are one too many", 0, x.undone(0, 0));
    }

    // ======== years, promise 37

    private static void years() {
        PaperBoxes x = new PaperBoxes();
        x.sheet(0, 1, 1);
        due("a SHEET for none", 0, x.year(0, 99, 0, 0));
        due("a SHEET for none: nothing is the most left", NONE, x.year(0, 99, 0, 1));
        yearsByOwnDraws(1, 1);
        yearsByOwnDraws(150, 150);
        yearsByOwnDraws(60, 20);
        yearsByOwnDraws(17, 41);
        // x is 74: sides 15, 4 and 1, by a 11 by 16, by b 33 by 5, by c 39 by 5
        x.sheet(0, 33, 5);
        due("it does, just so", 1, x.year(0, 1, 0, 0));
        due("it does, just so: nothing is left", 0, x.year(0, 1, 0, 1));
        x.sheet(0, 32, 5);
        due("one less", 0, x.year(0, 1, 0, 0));
        due("one less", NONE, x.year(0, 1, 0, 1));
        due("PAPER all the same", 165, x.year(0, 1, 0, 2));
        x.sheet(0, 16, 11);
        due("DOES by another AXIS than LEAST", 1, x.year(0, 1, 0, 0));
        due("PAPER is that of LEAST", 165, x.year(0, 1, 0, 2));
        due("left by the AXIS that does", 0, x.year(0, 1, 0, 1));
    }

    private static void yearsByOwnDraws(int width, int height) {
        for (int seed : new int[] {0, 1, 873, 874, 9998, 9999}) {
            for (int n : new int[] {1, 2, 98, 99}) {
                for (int lap = 0; lap <= 9; lap += 9) {
                    PaperBoxes x = new PaperBoxes();
                    settings(x, lap, lap / 3);
                    x.sheet(4, width, height);
                    int[] want = yearOf(x, seed, n);
                    for (int what = 0; what < 3; what++) {
                        due("year(" + seed + ", " + n + ", .., " + what + ")", want[what], x.year(seed, n, 4, what));
                    }
                }
            }
        }
    }

    /** Each present as a BOX of its own, on an object of its own. */
    private static int[] yearOf(PaperBoxes x, int seed, int n) {
        int[] want = {0, NONE, 0};
        long draw = seed;
        for (int i = 0; i < n; i++) {
            draw = (75 * draw + 74) % 65537;
            PaperBoxes y = new PaperBoxes();
            settings(y, x.told(4), x.told(5));
            y.sheet(0, x.told(520), x.told(521));
            y.box(0, (int) (1 + draw % 20), (int) (1 + draw / 20 % 20), (int) (1 + draw / 400 % 20));
            int left = y.does(0, 0, 2);
            want[0] += left == NONE ? 0 : 1;
            want[1] = Math.max(want[1], left);
            want[2] += y.least(0, 1);
        }
        return want;
    }

    // ======== images, promises 38 and 39

    private static void images() {
        imageOfNothing();
        imagesApart();
        imageWithoutPad();
        imageKeptAnew();
        imageOfAll();
    }

    private static void imageOfNothing() {
        PaperBoxes x = new PaperBoxes();
        due("nothing kept", 1, x.image(0));
        x.box(0, 1, 1, 1);
        x.thing(0, 1, 1, 1);
        x.sheet(0, 1, 1);
        for (int which = 0; which < 4; which++) {
            x.set(which, 7);
        }
        x.mark(0, 1);
        x.mark(1, 1);
        due("the other was not kept", STATE, x.restore(1));
        due("still there", 1, x.told(1));
        due("nothing restored", 1, x.restore(0));
        int[] first = {0, 0, 0, 0, 1, 0, 1, 10, 0, 0};
        for (int what = 0; what < 10; what++) {
            due("told(" + what + ") as at first", first[what], x.told(what));
        }
        due("as at first", UNKNOWN, x.least(0, 0));
    }

    private static void imagesApart() {
        PaperBoxes x = withBox(1, 1, 1);
        x.image(0);
        x.box(0, 2, 2, 2);
        x.image(1);
        x.box(0, 3, 3, 3);
        x.restore(0);
        due("image 0", 1, x.told(100));
        x.restore(1);
        due("image 1 is not lost by image 0", 2, x.told(100));
        x.restore(1);
        due("image 1 again", 2, x.told(100));
        x.box(0, 9, 9, 9);
        due("what comes behind is not in the image", 1, x.restore(0));
        due("what comes behind is not in the image", 1, x.told(100));
        due("image 2", OUTSIDE, x.image(2));
        due("image -1", OUTSIDE, x.image(-1));
        due("restore 2", OUTSIDE, x.restore(2));
        due("restore -1", OUTSIDE, x.restore(-1));
    }

    private static void imageWithoutPad() {
        PaperBoxes x = saying("B1x");
        x.image(0);
        say(x, "1x1;");
        x.restore(0);
        due("the PAD is not as it was kept", 7, x.told(0));
        due("the PAD is not as it was kept", NONE, x.fault());
        due("the PAD is laid", 1, x.lay());
        due("the PAD is laid", 1, x.told(1));
        x.restore(0);
        due("a BOX laid goes", 0, x.told(1));
        due("the PAD stays empty", 0, x.told(0));
        x.say('?');
        x.image(1);
        due("to keep does not wipe", 1, x.told(0));
        x.wipe();
        x.restore(1);
        due("signs do not come again", 0, x.told(0));
    }

    private static void imageKeptAnew() {
        PaperBoxes x = withBox(1, 1, 1);
        x.image(1);
        x.drop(0, 0);
        x.thing(3, 4, 5, 6);
        due("kept anew", 1, x.image(1));
        x.drop(1, 3);
        x.restore(1);
        due("kept anew: the BOX had gone", 0, x.told(1));
        due("kept anew: the THING was there", 8, x.told(2));
        due("kept anew: its sides", 6, x.told(412));
    }

    private static void imageOfAll() {
        PaperBoxes x = new PaperBoxes();
        for (int i = 0; i < 6; i++) {
            x.box(i, 1 + i, 2 + i, 3 + i);
            x.thing(i, 4 + i, 5 + i, 6 + i);
            x.sheet(i, 70 + i, 140 + i);
            x.mark(0, 9 + i);
            x.mark(1, 7);
        }
        int[] settings = {9, 8, 40, 60};
        for (int which = 0; which < 4; which++) {
            x.set(which, settings[which]);
        }
        int hidden = x.hidden(0, 0, 0, 0);
        x.image(0);
        for (int i = 0; i < 6; i++) {
            x.drop(0, i);
            x.thing(i, 20, 20, 20);
            x.sheet(i, 1, 1);
            x.set(i % 4, 1);
        }
        x.iron(0);
        x.iron(1);
        x.mark(0, 150);
        x.mark(1, 90);
        due("all restored", 1, x.restore(0));
        for (int i = 0; i < 6; i++) {
            int at = 100 + 100 * i;
            int[] want = {1 + i, 2 + i, 3 + i, 4 + i, 5 + i, 6 + i, 70 + i, 140 + i};
            int[] places = {0, 1, 2, 10, 11, 12, 20, 21};
            for (int k = 0; k < 8; k++) {
                due("restored: told(" + (at + places[k]) + ")", want[k], x.told(at + places[k]));
            }
        }
        for (int which = 0; which < 4; which++) {
            due("restored: setting " + which, settings[which], x.told(4 + which));
        }
        due("restored: FOLDS", 6, x.told(8));
        due("restored: CREASES", 6, x.told(9));
        due("restored: where the FOLDS lie", hidden, x.hidden(0, 0, 0, 0));
        due("restored: no room for a FOLD", FULL, x.mark(0, 0));
        x.set(0, 7);
        due("restored: where the CREASES lie", 400, x.undone(0, 0));
    }

    // ======== told, promise 40

    private static void tellings() {
        for (int state = 0; state < 3; state++) {
            for (int from = -300; from < 1300; from += 400) {
                PaperBoxes x = tellingState(state);
                for (int what = from; what < from + 400; what++) {
                    due("told(" + what + ") in state " + state, toldIn(state, what), x.told(what));
                }
            }
            PaperBoxes x = tellingState(state);
            for (int what : new int[] {MIN, MIN + 1, MIN + 100, -100, MAX, MAX - 47, MAX - 47 - 100}) {
                due("told(" + what + ")", OUTSIDE, x.told(what));
            }
        }
    }

    /** Nothing there; one of each there; all six of each there. */
    private static PaperBoxes tellingState(int state) {
        PaperBoxes x = new PaperBoxes();
        for (int i = 0; i < 6; i++) {
            if (state == 2 || state == 1 && i == 2) {
                x.box(i, 1 + i, 7 + i, 13 + i);
                x.thing(i, 2 + i, 8 + i, 14 + i);
                x.sheet(i, 30 + i, 140 + i);
                x.mark(0, i);
                x.mark(1, i);
                x.say('B');
            }
        }
        return x;
    }

    private static int toldIn(int state, int what) {
        int bits = state == 0 ? 0 : state == 1 ? 4 : 63;
        int count = Integer.bitCount(bits);
        if (what >= 0 && what < 10) {
            return new int[] {count, bits, bits, bits, 1, 0, 1, 10, count, count}[what];
        }
        for (int i = 0; i < 6; i++) {
            int[] places = {0, 1, 2, 10, 11, 12, 20, 21};
            int[] sides = {1 + i, 7 + i, 13 + i, 2 + i, 8 + i, 14 + i, 30 + i, 140 + i};
            for (int k = 0; k < 8; k++) {
                if (what == 100 * (1 + i) + places[k] && (bits >> i & 1) == 1) {
                    return sides[k];
                }
            }
        }
        return OUTSIDE;
    }
}
