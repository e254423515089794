/** Each promise by ordinary inputs, by the edges that the document names, and by wrong inputs. */
public final class PromisesTest {
    private static final int MIN = Integer.MIN_VALUE;
    private static final int MAX = Integer.MAX_VALUE;
    private static final int UNKNOWN = -1, OUTSIDE = -2, STATE = -3, FULL = -4, NO = -5, NONE = -6;
    private static int wrong = 0;

    private static void due(String what, int want, int got) {
        if (want != got) {
            wrong++;
            System.out.println(what + " answered " + got + ", due is " + want);
        }
    }

    public static void main(String[] args) {
        newObject();
        boxesThingsSheets();
        dropping();
        settings();
        pad();
        faults();
        laying();
        needs();
        leasts();
        sheetsThatDo();
        takenSheets();
        shortSheets();
        slants();
        rolls();
        cheaperRolls();
        narrowRolls();
        pieces();
        cuts();
        mosts();
        usedUps();
        pleats();
        ribbons();
        corners();
        thingsInBoxes();
        pairs();
        marks();
        hiddenFolds();
        undoneSheets();
        years();
        images();
        tellings();
        refusedCallsChangeNothing();
        System.out.println(wrong == 0 ? "all promises are kept" : wrong + " answers are wrong");
        if (wrong != 0) {
            System.exit(1);
        }
    }

    private static int sayAll(PaperBoxes x, String text) {
        int last = 0;
        for (int i = 0; i < text.length(); i++) {
            last = x.say(text.charAt(i));
        }
        return last;
    }

    private static void newObject() {
        PaperBoxes x = new PaperBoxes();
        int[] first = {0, 0, 0, 0, 1, 0, 1, 10, 0, 0};
        for (int i = 0; i < first.length; i++) {
            due("1: told(" + i + ") at first", first[i], x.told(i));
        }
        due("1: no image", STATE, x.restore(0));
        due("1: no image", STATE, x.restore(1));
        due("1: no box", UNKNOWN, x.least(0, 0));
        due("1: no thing", UNKNOWN, x.tight(0));
    }

    private static void boxesThingsSheets() {
        PaperBoxes x = new PaperBoxes();
        due("2: box", 1, x.box(5, 1, 20, 7));
        due("2: box anew", 1, x.box(5, 2, 3, 4));
        due("2: its sides are new", 3, x.told(601));
        due("2: a second box", 2, x.box(0, 20, 20, 20));
        due("2: number below", UNKNOWN, x.box(-1, 1, 1, 1));
        due("2: number beyond", UNKNOWN, x.box(6, 0, 0, 0));
        due("2: number wild", UNKNOWN, x.box(MIN, 1, 1, 1));
        due("2: a", OUTSIDE, x.box(1, 0, 1, 1));
        due("2: b", OUTSIDE, x.box(1, 1, 21, 1));
        due("2: c", OUTSIDE, x.box(1, 1, 1, MAX));
        due("3: thing", 1, x.thing(3, 1, 20, 7));
        due("3: a second thing", 2, x.thing(0, 1, 1, 1));
        due("3: number", UNKNOWN, x.thing(6, 0, 1, 1));
        due("3: a", OUTSIDE, x.thing(1, MIN, 1, 1));
        due("3: b", OUTSIDE, x.thing(1, 1, 0, 1));
        due("3: c", OUTSIDE, x.thing(1, 1, 1, 21));
        due("4: sheet", 1, x.sheet(5, 1, 150));
        due("4: sheet anew", 1, x.sheet(5, 150, 1));
        due("4: number", UNKNOWN, x.sheet(-1, 0, 1));
        due("4: number", UNKNOWN, x.sheet(6, 1, 1));
        due("4: width", OUTSIDE, x.sheet(0, 0, 1));
        due("4: width", OUTSIDE, x.sheet(0, 151, 1));
        due("4: height", OUTSIDE, x.sheet(0, 1, 0));
        due("4: height", OUTSIDE, x.sheet(0, 1, 151));
    }

    private static void dropping() {
        PaperBoxes x = new PaperBoxes();
        x.box(1, 1, 1, 1);
        x.box(2, 1, 1, 1);
        x.thing(2, 1, 1, 1);
        x.sheet(3, 1, 1);
        due("5: sort ahead of the number", OUTSIDE, x.drop(3, 9));
        due("5: sort below", OUTSIDE, x.drop(-1, 1));
        due("5: not there", UNKNOWN, x.drop(0, 0));
        due("5: no number", UNKNOWN, x.drop(0, 6));
        due("5: no number", UNKNOWN, x.drop(2, MAX));
        due("5: no number", UNKNOWN, x.drop(1, -31));
        due("5: box", 1, x.drop(0, 2));
        due("5: box is gone", UNKNOWN, x.drop(0, 2));
        due("5: thing", 0, x.drop(1, 2));
        due("5: sheet", 0, x.drop(2, 3));
        due("5: the other box stays", 2, x.told(1));
    }

    private static void settings() {
        PaperBoxes x = new PaperBoxes();
        int[] at = {1, 0, 1, 10};
        int[] least = {0, 0, 1, 0};
        int[] most = {9, 9, 40, 60};
        for (int i = 0; i < 4; i++) {
            due("6: was at first " + i, at[i], x.set(i, most[i]));
            due("6: was " + i, most[i], x.set(i, least[i]));
            due("6: too little " + i, OUTSIDE, x.set(i, least[i] - 1));
            due("6: too much " + i, OUTSIDE, x.set(i, most[i] + 1));
            due("6: stays " + i, least[i], x.told(4 + i));
        }
        due("6: which", OUTSIDE, x.set(4, 1));
        due("6: which", OUTSIDE, x.set(-1, 1));
        due("6: which", OUTSIDE, x.set(MAX, 1));
    }

    private static void pad() {
        PaperBoxes x = new PaperBoxes();
        due("7: too low", OUTSIDE, x.say(32));
        due("7: too high", OUTSIDE, x.say(127));
        due("7: lowest", 1, x.say(33));
        due("7: highest", 2, x.say(126));
        due("8: wiped", 2, x.wipe());
        due("8: wiped again", 0, x.wipe());
        for (int i = 1; i <= 60; i++) {
            due("7: sign", i, x.say('B'));
        }
        due("7: full", FULL, x.say('B'));
        due("7: outside ahead of full", OUTSIDE, x.say(200));
        due("7: signs", 60, x.told(0));
        due("8: wiped", 60, x.wipe());
        due("8: signs", 0, x.told(0));
    }

    private static void faultOf(String text, int want) {
        PaperBoxes x = new PaperBoxes();
        sayAll(x, text);
        due("9: fault of " + text, want, x.fault());
        due("9: signs stay of " + text, text.length(), x.told(0));
        due("10: lay of " + text + " with a fault", want == NONE ? 0 : NO, want == NONE ? 0 : x.lay());
    }

    private static void faults() {
        faultOf("", NONE);
        faultOf("B", 1);
        faultOf("b1x1x1;", 0);
        faultOf("X", 0);
        faultOf(";", 0);
        faultOf("BB", 1);
        faultOf("B;", 1);
        faultOf("Bx", 1);
        faultOf("B0", 1);
        faultOf("B1", 2);
        faultOf("B10", 3);
        faultOf("B20x20x20;", NONE);
        faultOf("B21x1x1;", 2);
        faultOf("B200", 3);
        faultOf("B190", 3);
        faultOf("B3x0x1;", 3);
        faultOf("B3x10x01;", 6);
        faultOf("B3;", 2);
        faultOf("B3x3;", 4);
        faultOf("B3x3x3", 6);
        faultOf("B3x3x3x", 6);
        faultOf("B3x3x3;;", 7);
        faultOf("B3x3x3;T", 8);
        faultOf("T1x2x30;", 6);
        faultOf("S150x150;", NONE);
        faultOf("S151", 3);
        faultOf("S160", 3);
        faultOf("S99x1;", NONE);
        faultOf("S1500", 4);
        faultOf("S1x1x1;", 4);
        faultOf("S1;", 2);
        faultOf("S1xx", 3);
        faultOf("S1X1;", 2);
        faultOf("S1x1;S2x2;B1x2x3;T3x2x1;", NONE);
        faultOf("S1x1;S2x2;B1x2x3;T3x2x1;0", 24);
        String sixty = "S1x1;S1x1;S1x1;S1x1;S1x1;S1x1;S1x1;S1x1;S1x1;S1x1;S1x1;S100x";
        faultOf(sixty, 60);
    }

    private static void laying() {
        PaperBoxes x = new PaperBoxes();
        x.box(1, 9, 9, 9);
        x.sheet(0, 7, 8);
        sayAll(x, "B1x2x3;S4x5;B6x7x8;T9x10x11;S120x130;");
        due("10: parts", 5, x.lay());
        due("10: the pad is empty", 0, x.told(0));
        due("10: boxes", 7, x.told(1));
        due("10: things", 1, x.told(2));
        due("10: sheets", 7, x.told(3));
        int[] places = {100, 101, 102, 200, 300, 301, 302, 110, 111, 112, 120, 121, 220, 221, 320, 321};
        int[] sides = {1, 2, 3, 9, 6, 7, 8, 9, 10, 11, 7, 8, 4, 5, 120, 130};
        for (int i = 0; i < places.length; i++) {
            due("10: told(" + places[i] + ")", sides[i], x.told(places[i]));
        }
        sayAll(x, "T1x1x1;B1x1x1;B1x1x1;B1x1x1;");
        due("10: three more boxes", 4, x.lay());
        sayAll(x, "S1x1;B1x1x1;");
        due("10: no box is left", FULL, x.lay());
        due("10: the pad stays", 12, x.told(0));
        due("10: sheets stay", 7, x.told(3));
        x.say('?');
        due("10: a fault is ahead of full", NO, x.lay());
        x.wipe();
        due("10: nothing laid", 0, x.lay());
        sayAll(x, "S1x1;S1x1;S1x1;S1x1;");
        due("10: one sheet too many", FULL, x.lay());
        x.drop(2, 1);
        due("10: a sheet less", 4, x.lay());
        due("10: all sheets", 63, x.told(3));
    }

    private static void needs() {
        PaperBoxes x = new PaperBoxes();
        x.box(2, 9, 7, 4);
        int[][] want = {{23, 13, 299}, {27, 11, 297}, {33, 11, 363}};
        for (int axis = 0; axis < 3; axis++) {
            for (int what = 0; what < 3; what++) {
                due("11: need(2, " + axis + ", " + what + ")", want[axis][what], x.need(2, axis, what));
            }
        }
        x.set(0, 5);
        x.set(1, 3);
        due("11: lap", 27, x.need(2, 0, 0));
        due("11: edge", 19, x.need(2, 0, 1));
        due("11: both", 27 * 19, x.need(2, 0, 2));
        due("11: box", UNKNOWN, x.need(0, 0, 3));
        due("11: box", UNKNOWN, x.need(-1, 0, 0));
        due("11: axis", UNKNOWN, x.need(2, 3, 3));
        due("11: axis", UNKNOWN, x.need(2, -1, 0));
        due("11: what", OUTSIDE, x.need(2, 0, 3));
        due("11: what", OUTSIDE, x.need(2, 0, -1));
    }

    private static void leasts() {
        PaperBoxes x = new PaperBoxes();
        x.box(0, 9, 7, 4);
        x.box(1, 3, 3, 3);
        due("12: axis", 1, x.least(0, 0));
        due("12: paper", 297, x.least(0, 1));
        due("12: the first of alike", 0, x.least(1, 0));
        due("12: paper", 78, x.least(1, 1));
        due("12: box", UNKNOWN, x.least(2, 5));
        due("12: what", OUTSIDE, x.least(0, 2));
        due("12: what", OUTSIDE, x.least(0, -1));
    }

    private static void sheetsThatDo() {
        PaperBoxes x = new PaperBoxes();
        x.box(0, 9, 7, 4);
        x.sheet(0, 23, 13);
        due("13: axis, just so", 0, x.does(0, 0, 0));
        due("13: turn", 0, x.does(0, 0, 1));
        due("13: nothing left", 0, x.does(0, 0, 2));
        x.sheet(0, 13, 23);
        due("13: turned", 1, x.does(0, 0, 1));
        x.sheet(0, 22, 13);
        due("13: none", NONE, x.does(0, 0, 2));
        x.sheet(0, 150, 150);
        due("13: least paper of several", 1, x.does(0, 0, 0));
        due("13: first turn of several", 0, x.does(0, 0, 1));
        due("13: left", 22500 - 297, x.does(0, 0, 2));
        x.box(1, 3, 3, 3);
        due("13: first axis of alike", 0, x.does(1, 0, 0));
        due("13: box", UNKNOWN, x.does(2, 0, 9));
        due("13: sheet", UNKNOWN, x.does(0, 1, 9));
        due("13: what", OUTSIDE, x.does(0, 0, 3));
        due("13: what", OUTSIDE, x.does(0, 0, -1));
    }

    private static void takenSheets() {
        PaperBoxes x = new PaperBoxes();
        x.box(0, 9, 7, 4);
        due("14: no sheet", NONE, x.taken(0));
        x.sheet(1, 60, 40);
        x.sheet(3, 30, 80);
        due("14: first of alike", 1, x.taken(0));
        x.sheet(5, 13, 23);
        due("14: least area", 5, x.taken(0));
        x.sheet(0, 150, 9);
        due("14: one that does not", 5, x.taken(0));
        due("14: box", UNKNOWN, x.taken(1));
        due("14: box", UNKNOWN, x.taken(MAX));
    }

    private static void shortSheets() {
        PaperBoxes x = new PaperBoxes();
        x.box(0, 9, 7, 4);
        x.sheet(0, 22, 12);
        due("15: both", 2, x.shortBy(0, 0, 0, 0));
        due("15: turned", 11, x.shortBy(0, 0, 0, 1));
        due("15: one alone", 15, x.shortBy(0, 0, 1, 1));
        x.sheet(0, 150, 150);
        due("15: it does", 0, x.shortBy(0, 0, 0, 0));
        due("15: box", UNKNOWN, x.shortBy(1, 0, 0, 2));
        due("15: sheet", UNKNOWN, x.shortBy(0, 1, 0, 2));
        due("15: axis", UNKNOWN, x.shortBy(0, 0, 3, 2));
        due("15: turn", OUTSIDE, x.shortBy(0, 0, 0, 2));
        due("15: turn", OUTSIDE, x.shortBy(0, 0, 0, -1));
    }

    private static void slants() {
        PaperBoxes x = new PaperBoxes();
        x.box(0, 4, 4, 1);
        x.box(1, 20, 20, 20);
        x.box(2, 1, 2, 3);
        x.box(3, 5, 2, 5);
        due("16: q", 8, x.slant(0, 2));
        due("16: others differ", NONE, x.slant(0, 0));
        due("16: greatest", 57, x.slant(1, 1));
        due("16: axis 1", 10, x.slant(3, 1));
        due("16: box", UNKNOWN, x.slant(4, 0));
        due("16: axis", UNKNOWN, x.slant(0, 3));
        due("16: axis", UNKNOWN, x.slant(0, -1));
        x.sheet(0, 8, 8);
        x.sheet(1, 150, 7);
        x.sheet(2, 7, 150);
        due("17: does", 1, x.slants(0, 0));
        due("17: height", 0, x.slants(0, 1));
        due("17: width", 0, x.slants(0, 2));
        due("17: no axis", 0, x.slants(2, 0));
        due("17: box", UNKNOWN, x.slants(5, 0));
        due("17: sheet", UNKNOWN, x.slants(0, 5));
        due("18: below 0", 99991, x.saved(0));
        due("18: above 0", 100000 + 81 * 40 - 57 * 57, x.saved(1));
        due("18: none", NONE, x.saved(2));
        due("18: box", UNKNOWN, x.saved(5));
    }

    private static void rolls() {
        PaperBoxes x = new PaperBoxes();
        x.box(0, 9, 7, 4);
        due("19: narrowest", 27, x.roll(0, 11, 0));
        due("19: axis", 1, x.roll(0, 11, 1));
        due("19: turn", 0, x.roll(0, 11, 2));
        due("19: too narrow", NONE, x.roll(0, 10, 0));
        due("19: length", 13, x.roll(0, 23, 0));
        due("19: long along", 1, x.roll(0, 23, 2));
        due("19: widest", 11, x.roll(0, 150, 0));
        due("19: first axis of alike", 1, x.roll(0, 150, 1));
        due("19: box", UNKNOWN, x.roll(1, 0, 9));
        due("19: width", OUTSIDE, x.roll(0, 0, 0));
        due("19: width", OUTSIDE, x.roll(0, 151, 0));
        due("19: what", OUTSIDE, x.roll(0, 1, 3));
        due("19: what", OUTSIDE, x.roll(0, 1, -1));
    }

    private static void cheaperRolls() {
        PaperBoxes x = new PaperBoxes();
        x.box(0, 9, 7, 4);
        due("20: first", 0, x.cheaper(0, 11, 2, 23, 5, 0));
        due("20: pence", 54, x.cheaper(0, 11, 2, 23, 5, 1));
        due("20: other", 1, x.cheaper(0, 11, 5, 23, 10, 0));
        due("20: other's pence", 130, x.cheaper(0, 11, 5, 23, 10, 1));
        due("20: alike", 0, x.cheaper(0, 11, 13, 23, 27, 0));
        due("20: first too narrow", 1, x.cheaper(0, 10, 0, 11, 99, 0));
        due("20: first too narrow", 99 * 27, x.cheaper(0, 10, 0, 11, 99, 1));
        due("20: other too narrow", 0, x.cheaper(0, 11, 99, 10, 0, 0));
        due("20: for nothing", 0, x.cheaper(0, 11, 0, 11, 0, 1));
        due("20: both too narrow", NONE, x.cheaper(0, 10, 1, 1, 1, 0));
        due("20: box", UNKNOWN, x.cheaper(1, 0, 1, 1, 1, 0));
        due("20: width", OUTSIDE, x.cheaper(0, 0, 1, 1, 1, 0));
        due("20: pence", OUTSIDE, x.cheaper(0, 1, 100, 1, 1, 0));
        due("20: pence", OUTSIDE, x.cheaper(0, 1, -1, 1, 1, 0));
        due("20: other", OUTSIDE, x.cheaper(0, 1, 1, 151, 1, 0));
        due("20: other pence", OUTSIDE, x.cheaper(0, 1, 1, 1, 100, 0));
        due("20: what", OUTSIDE, x.cheaper(0, 1, 1, 1, 1, 2));
    }

    private static void narrowRolls() {
        PaperBoxes x = new PaperBoxes();
        x.box(0, 9, 7, 4);
        due("21: width", 13, x.narrow(0, 26));
        due("21: width", 11, x.narrow(0, 27));
        due("21: width", 11, x.narrow(0, 300));
        due("21: across round", 27, x.narrow(0, 11));
        due("21: none", NONE, x.narrow(0, 10));
        due("21: box", UNKNOWN, x.narrow(1, 0));
        due("21: length", OUTSIDE, x.narrow(0, 0));
        due("21: length", OUTSIDE, x.narrow(0, 301));
    }

    private static void pieces() {
        PaperBoxes x = new PaperBoxes();
        x.box(0, 9, 7, 4);
        due("22: no sheet", NONE, x.pieces(0, 0, 0));
        x.sheet(1, 11, 27);
        x.sheet(2, 22, 12);
        due("22: too little", NONE, x.pieces(0, 0, 0));
        x.sheet(4, 12, 13);
        due("22: two", 2, x.pieces(0, 0, 0));
        due("22: which", 20, x.pieces(0, 0, 1));
        x.sheet(5, 12, 12);
        due("22: one that is too small", 20, x.pieces(0, 0, 1));
        x.sheet(5, 13, 23);
        due("22: one alone, the greater side", 32, x.pieces(0, 0, 1));
        x.sheet(0, 23, 13);
        due("22: least as bits", 1, x.pieces(0, 0, 1));
        x.set(0, 9);
        due("22: lap for each", 2, x.pieces(0, 0, 0));
        due("22: lap for each", 33, x.pieces(0, 0, 1));
        x.sheet(0, 12, 150);
        x.sheet(5, 150, 12);
        due("22: laps eat sheets", NONE, x.pieces(0, 0, 0));
        x.set(0, 0);
        x.drop(2, 1);
        x.drop(2, 2);
        x.drop(2, 4);
        x.sheet(0, 150, 10);
        x.sheet(3, 12, 12);
        x.sheet(5, 11, 150);
        due("22: a sheet that gives nothing", NONE, x.pieces(0, 0, 0));
        x.sheet(0, 150, 11);
        due("22: just enough", 33, x.pieces(0, 0, 1));
        due("22: box", UNKNOWN, x.pieces(1, 0, 2));
        due("22: axis", UNKNOWN, x.pieces(0, 3, 2));
        due("22: what", OUTSIDE, x.pieces(0, 0, 2));
        due("22: what", OUTSIDE, x.pieces(0, 0, -1));
    }

    /** Pieces of 16 by 26. */
    private static void cuts() {
        PaperBoxes x = new PaperBoxes();
        x.set(0, 0);
        x.set(1, 9);
        for (int i = 0; i < 5; i++) {
            x.box(i, 4, 4, 4);
        }
        due("23: piece", 16 * 26, x.least(0, 1));
        x.sheet(0, 42, 42);
        due("23: a wheel of four is no cut through", 0, x.cut(15, 0));
        due("23: three of the wheel", 1, x.cut(7, 0));
        x.sheet(0, 32, 52);
        due("23: two and two", 1, x.cut(15, 0));
        x.sheet(0, 52, 32);
        due("23: two and two, turned", 1, x.cut(15, 0));
        x.sheet(0, 51, 32);
        due("23: one too short", 0, x.cut(15, 0));
        due("23: three of four", 1, x.cut(14, 0));
        due("23: none at all", 1, x.cut(0, 0));
        due("23: sheet", UNKNOWN, x.cut(64, 1));
        due("23: set", OUTSIDE, x.cut(32, 0));
        due("23: set beyond", OUTSIDE, x.cut(64, 0));
        due("23: set below", OUTSIDE, x.cut(-1, 0));
        due("23: full", FULL, x.cut(31, 0));
        due("23: outside ahead of full", OUTSIDE, x.cut(63, 0));
    }

    private static void mosts() {
        PaperBoxes x = new PaperBoxes();
        x.set(0, 0);
        x.set(1, 9);
        x.sheet(0, 150, 150);
        due("24: none", 0, x.most(0, 0));
        due("24: none", 0, x.most(0, 1));
        due("24: all left", 22500, x.most(0, 2));
        for (int i = 0; i < 6; i++) {
            x.box(i, 4, 4, 4);
        }
        due("24: four at most", 4, x.most(0, 0));
        due("24: least as bits", 15, x.most(0, 1));
        due("24: left", 22500 - 4 * 416, x.most(0, 2));
        x.box(0, 20, 20, 20);
        x.sheet(0, 42, 42);
        due("24: three", 3, x.most(0, 0));
        due("24: which", 14, x.most(0, 1));
        due("24: left", 42 * 42 - 3 * 416, x.most(0, 2));
        due("24: sheet", UNKNOWN, x.most(1, 3));
        due("24: what", OUTSIDE, x.most(0, 3));
        due("24: what", OUTSIDE, x.most(0, -1));
    }

    private static void usedUps() {
        PaperBoxes x = new PaperBoxes();
        due("25: nothing", 0, x.usedUp(0, -1));
        due("25: nothing", NONE, x.usedUp(0, 0));
        x.set(0, 0);
        x.box(0, 1, 1, 1);
        x.box(1, 1, 1, 3);
        x.box(2, 1, 1, 3);
        due("25: no sheets", 0, x.usedUp(7, -1));
        due("25: all are in the order", 2, x.usedUp(7, 2));
        // the lesser sheet does for all, the greater one for the cube alone
        x.sheet(0, 4, 4);
        x.sheet(1, 7, 3);
        due("25: the cube last", 2, x.usedUp(3, -1));
        due("25: the cube last", 1, x.usedUp(3, 0));
        due("25: the cube last", 0, x.usedUp(3, 1));
        due("25: passed over", 2, x.usedUp(7, -1));
        due("25: first by boxes", 1, x.usedUp(7, 0));
        due("25: first by boxes", 0, x.usedUp(7, 1));
        due("25: first by boxes", 2, x.usedUp(7, 2));
        due("25: beyond the order", NONE, x.usedUp(7, 3));
        due("25: beyond the order", NONE, x.usedUp(7, MAX));
        due("25: ahead of the order", NONE, x.usedUp(7, -2));
        due("25: set", OUTSIDE, x.usedUp(8, -1));
        due("25: set", OUTSIDE, x.usedUp(-1, 0));
        due("25: set", OUTSIDE, x.usedUp(71, 0));
    }

    private static void pleats() {
        PaperBoxes x = new PaperBoxes();
        x.box(0, 9, 7, 4);
        due("26: period 1", 0, x.pleat(0, 0));
        due("27: period 1", 7, x.match(0));
        x.set(2, 13);
        due("26: 22 to 26", 4, x.pleat(0, 0));
        due("26: 26", 0, x.pleat(0, 1));
        due("26: 32 to 39", 7, x.pleat(0, 2));
        due("27: one", 2, x.match(0));
        x.set(2, 40);
        due("26: less than a period", 18, x.pleat(0, 0));
        due("27: none", 0, x.match(0));
        due("26: box", UNKNOWN, x.pleat(1, 0));
        due("26: axis", UNKNOWN, x.pleat(0, 3));
        due("26: axis", UNKNOWN, x.pleat(0, -1));
        due("27: box", UNKNOWN, x.match(1));
    }

    private static void ribbons() {
        PaperBoxes x = new PaperBoxes();
        x.box(0, 9, 7, 4);
        due("28: c upright", 2 * (9 + 7 + 8) + 10, x.ribbon(0, 2));
        due("28: a upright", 2 * (7 + 4 + 18) + 10, x.ribbon(0, 0));
        x.set(3, 0);
        due("28: no knot", 48, x.ribbon(0, 2));
        due("28: box", UNKNOWN, x.ribbon(1, 0));
        due("28: axis", UNKNOWN, x.ribbon(0, 3));
    }

    private static void corners() {
        PaperBoxes x = new PaperBoxes();
        x.box(0, 5, 3, 2);
        x.box(1, 1, 2, 2);
        x.box(2, 20, 20, 20);
        due("29: ribbon", 28, x.corners(0, 2, 0));
        due("29: hundredths", 1720, x.corners(0, 2, 1));
        due("29: greatest", 114 + 10, x.corners(2, 0, 0));
        due("29: greatest hundredths", 11313, x.corners(2, 0, 1));
        // (1 and 2) and (2 and 2): 3, 4, 5
        due("29: a whole length", 10 + 10, x.corners(1, 1, 0));
        due("29: whole hundredths", 1000, x.corners(1, 1, 1));
        x.set(3, 60);
        due("29: knot", 70, x.corners(1, 1, 0));
        due("29: hundredths without knot", 1000, x.corners(1, 1, 1));
        due("29: box", UNKNOWN, x.corners(3, 0, 2));
        due("29: axis", UNKNOWN, x.corners(0, 3, 2));
        due("29: what", OUTSIDE, x.corners(0, 0, 2));
        due("29: what", OUTSIDE, x.corners(0, 0, -1));
    }

    private static void thingsInBoxes() {
        PaperBoxes x = new PaperBoxes();
        x.thing(0, 3, 1, 2);
        due("31: no box", NONE, x.tight(0));
        x.box(0, 1, 2, 3);
        x.box(1, 3, 3, 1);
        x.box(2, 20, 20, 1);
        x.box(3, 1, 20, 20);
        x.thing(1, 2, 2, 2);
        x.thing(2, 1, 1, 15);
        due("30: just so, in another order", 1, x.fits(0, 0));
        due("30: too thick", 0, x.fits(1, 2));
        due("30: too long", 0, x.fits(2, 1));
        due("30: long", 1, x.fits(2, 3));
        due("30: thing", UNKNOWN, x.fits(3, 0));
        due("30: box", UNKNOWN, x.fits(0, 4));
        due("31: least paper", 0, x.tight(0));
        due("31: first of alike", 2, x.tight(2));
        due("31: none", NONE, x.tight(1));
        due("31: thing", UNKNOWN, x.tight(3));
        due("31: thing", UNKNOWN, x.tight(-1));
    }

    private static void pairs() {
        PaperBoxes x = new PaperBoxes();
        due("32: no things", 0, x.paired(0, -1));
        due("32: not of it", UNKNOWN, x.paired(0, 0));
        x.thing(0, 1, 1, 1);
        x.thing(2, 2, 2, 2);
        due("32: no boxes", NONE, x.paired(5, -1));
        due("32: no boxes", NONE, x.paired(5, 2));
        x.box(0, 2, 2, 2);
        x.box(3, 2, 2, 2);
        x.box(4, 1, 1, 1);
        due("32: small", 10, x.least(4, 1));
        due("32: great", 36, x.least(0, 1));
        due("32: paper", 46, x.paired(5, -1));
        due("32: of the small", 4, x.paired(5, 0));
        due("32: of the great, the first", 0, x.paired(5, 2));
        x.drop(0, 4);
        due("32: alike, the least thing first", 0, x.paired(5, 0));
        due("32: alike", 3, x.paired(5, 2));
        x.thing(3, 2, 1, 2);
        due("32: three in two", NONE, x.paired(13, -1));
        due("32: three in two", NONE, x.paired(13, 3));
        due("32: unknown ahead of none", UNKNOWN, x.paired(13, 1));
        due("32: not of the set", UNKNOWN, x.paired(5, 3));
        due("32: thing beyond", UNKNOWN, x.paired(5, 32));
        due("32: thing below", UNKNOWN, x.paired(5, -2));
        due("32: set ahead of the thing", OUTSIDE, x.paired(7, 6));
        due("32: set", OUTSIDE, x.paired(-1, -1));
        due("32: set", OUTSIDE, x.paired(64, -1));
    }

    private static void marks() {
        PaperBoxes x = new PaperBoxes();
        due("33: fold", 1, x.mark(0, 150));
        due("33: the same fold", 2, x.mark(0, 150));
        due("33: crease", 1, x.mark(1, 90));
        due("33: sort", OUTSIDE, x.mark(2, 0));
        due("33: sort", OUTSIDE, x.mark(-1, 0));
        due("33: distance", OUTSIDE, x.mark(0, 151));
        due("33: distance", OUTSIDE, x.mark(0, -1));
        due("33: distance", OUTSIDE, x.mark(1, 91));
        due("33: distance", OUTSIDE, x.mark(1, -1));
        for (int i = 3; i <= 6; i++) {
            due("33: more folds", i, x.mark(0, 0));
        }
        due("33: full", FULL, x.mark(0, 0));
        due("33: outside ahead of full", OUTSIDE, x.mark(0, 151));
        due("33: folds", 6, x.told(8));
        due("33: creases", 1, x.told(9));
        due("34: sort", OUTSIDE, x.iron(2));
        due("34: sort", OUTSIDE, x.iron(-1));
        due("34: folds", 6, x.iron(0));
        due("34: folds again", 0, x.iron(0));
        due("34: creases", 1, x.iron(1));
    }

    private static void hiddenFolds() {
        PaperBoxes x = new PaperBoxes();
        x.box(0, 2, 3, 4);
        x.sheet(0, 20, 1);
        // by a: round 15, lap and u 4
        due("35: no folds", 6, x.hidden(0, 0, 0, 0));
        due("35: no folds", 0, x.hidden(0, 0, 0, 1));
        x.mark(0, 4);
        due("35: a fold under the lap or ahead", 6, x.hidden(0, 0, 0, 0));
        x.mark(0, 5);
        due("35: one more", 5, x.hidden(0, 0, 0, 0));
        due("35: least", 1, x.hidden(0, 0, 0, 1));
        x.iron(0);
        x.mark(0, 15);
        due("35: at the end is not beyond", 0, x.hidden(0, 0, 0, 0));
        due("35: none", NONE, x.hidden(0, 0, 0, 1));
        x.iron(0);
        x.mark(0, 16);
        due("35: beyond", 1, x.hidden(0, 0, 0, 0));
        due("35: beyond", 0, x.hidden(0, 0, 0, 1));
        x.iron(0);
        x.sheet(0, 15, 1);
        due("35: just so wide", 1, x.hidden(0, 0, 0, 0));
        x.sheet(0, 14, 150);
        due("35: too narrow", 0, x.hidden(0, 0, 0, 0));
        due("35: too narrow", NONE, x.hidden(0, 0, 0, 1));
        due("35: box", UNKNOWN, x.hidden(1, 0, 0, 2));
        due("35: axis", UNKNOWN, x.hidden(0, 3, 0, 2));
        due("35: sheet", UNKNOWN, x.hidden(0, 0, 1, 2));
        due("35: what", OUTSIDE, x.hidden(0, 0, 0, 2));
        due("35: what", OUTSIDE, x.hidden(0, 0, 0, -1));
    }

    private static void undoneSheets() {
        PaperBoxes x = new PaperBoxes();
        due("36: all", 400, x.undone(0, 0));
        due("36: first", 101, x.undone(0, 1));
        due("36: round", 19, x.undone(41, 0));
        due("36: round", 119, x.undone(41, 1));
        due("36: even", 0, x.undone(40, 0));
        due("36: none", NONE, x.undone(40, 1));
        x.mark(1, 1);
        due("36: lap tells nothing", 400, x.undone(0, 0));
        x.mark(1, 6);
        // u 5; u and v 5; 2 u and v 5
        due("36: one crease", 20 + 4 + 2, x.undone(0, 0));
        due("36: first", 103, x.undone(0, 1));
        x.mark(1, 8);
        // 5 and 7: u 5 v 2; u 2 v 3
        due("36: two creases", 2, x.undone(0, 0));
        due("36: first", 203, x.undone(0, 1));
        due("36: told round", 1, x.undone(15, 0));
        due("36: told round", 502, x.undone(15, 1));
        x.set(0, 0);
        due("36: another lap", 0, x.undone(0, 0));
        due("36: r", OUTSIDE, x.undone(90, 0));
        due("36: r", OUTSIDE, x.undone(-1, 0));
        due("36: what", OUTSIDE, x.undone(0, 2));
        due("36: what", OUTSIDE, x.undone(0, -1));
    }

    private static void years() {
        PaperBoxes x = new PaperBoxes();
        x.sheet(0, 20, 8);
        due("37: for how many", 2, x.year(5, 40, 0, 0));
        due("37: left", 70, x.year(5, 40, 0, 1));
        due("37: paper", 25953, x.year(5, 40, 0, 2));
        // x is 74: sides 15, 4, 1
        due("37: one present", 33 * 5, x.year(0, 1, 0, 2));
        due("37: it does not", 0, x.year(0, 1, 0, 0));
        due("37: none left", NONE, x.year(0, 1, 0, 1));
        x.sheet(0, 150, 150);
        due("37: it does", 99, x.year(9999, 99, 0, 0));
        due("37: sheet", UNKNOWN, x.year(-1, 0, 1, 3));
        due("37: seed", OUTSIDE, x.year(-1, 1, 0, 0));
        due("37: seed", OUTSIDE, x.year(10000, 1, 0, 0));
        due("37: n", OUTSIDE, x.year(0, 0, 0, 0));
        due("37: n", OUTSIDE, x.year(0, 100, 0, 0));
        due("37: what", OUTSIDE, x.year(0, 1, 0, 3));
        due("37: what", OUTSIDE, x.year(0, 1, 0, -1));
    }

    private static void images() {
        PaperBoxes x = new PaperBoxes();
        due("38: n", OUTSIDE, x.image(2));
        due("38: n", OUTSIDE, x.image(-1));
        due("39: n", OUTSIDE, x.restore(2));
        due("39: n", OUTSIDE, x.restore(-1));
        due("39: not kept", STATE, x.restore(1));
        x.box(0, 1, 2, 3);
        x.thing(1, 4, 5, 6);
        x.sheet(2, 7, 8);
        x.set(0, 2);
        x.set(1, 3);
        x.set(2, 4);
        x.set(3, 5);
        x.mark(0, 9);
        x.mark(1, 9);
        x.say('B');
        due("38: kept", 1, x.image(1));
        x.box(0, 9, 9, 9);
        x.drop(1, 1);
        x.sheet(3, 1, 1);
        x.set(0, 0);
        x.set(1, 0);
        x.set(2, 1);
        x.set(3, 0);
        x.iron(0);
        x.mark(1, 2);
        x.mark(1, 3);
        x.say('1');
        due("38: the other", 1, x.image(0));
        due("39: restored", 1, x.restore(1));
        int[] want = {2, 1, 2, 4, 2, 3, 4, 5, 1, 1};
        for (int i = 0; i < want.length; i++) {
            due("39: told(" + i + ") as kept, but the pad", want[i], x.told(i));
        }
        due("39: side", 2, x.told(101));
        // behind the lap 7: u; u and v; 2 u and v
        due("39: crease", 20 + 6 + 3, x.undone(0, 0));
        due("39: the other is still there", 1, x.restore(0));
        due("39: the other", 12, x.told(3));
        x.drop(2, 3);
        due("39: an image lasts", 1, x.restore(0));
        due("39: an image lasts", 12, x.told(3));
    }

    private static void tellings() {
        PaperBoxes x = new PaperBoxes();
        x.box(5, 1, 2, 3);
        x.thing(4, 4, 5, 6);
        x.sheet(0, 7, 8);
        due("40: bits", 32, x.told(1));
        due("40: bits", 16, x.told(2));
        due("40: bits", 1, x.told(3));
        int[] places = {600, 601, 602, 510, 511, 512, 120, 121};
        for (int i = 0; i < places.length; i++) {
            due("40: told(" + places[i] + ")", i + 1, x.told(places[i]));
        }
        int[] outside = {-1, 10, 99, 100, 110, 122, 123, 603, 609, 613, 610, 620, 513, 130, 190, 700, 720, MIN, MAX};
        for (int what : outside) {
            due("40: told(" + what + ")", OUTSIDE, x.told(what));
        }
    }

    private static String stateOf(PaperBoxes x) {
        StringBuilder all = new StringBuilder();
        for (int what = 0; what < 10; what++) {
            all.append(x.told(what)).append(' ');
        }
        for (int number = 1; number <= 6; number++) {
            for (int detail = 0; detail < 30; detail++) {
                all.append(x.told(100 * number + detail)).append(' ');
            }
        }
        all.append(x.fault()).append(' ').append(x.undone(0, 0));
        return all.toString();
    }

    private static void refusedCallsChangeNothing() {
        PaperBoxes x = new PaperBoxes();
        x.box(0, 4, 4, 2);
        x.thing(0, 1, 2, 3);
        x.sheet(0, 100, 90);
        x.mark(1, 6);
        sayAll(x, "B1x1x1;B1x1x1;B1x1x1;B1x1x1;B1x1x1;B1x1x1;");
        String before = stateOf(x);
        int[] refused = {
            x.box(9, 1, 1, 1), x.box(0, 21, 1, 1), x.thing(9, 1, 1, 1), x.thing(0, 1, 1, 0),
            x.sheet(9, 1, 1), x.sheet(0, 1, 151), x.drop(7, 0), x.drop(0, 1), x.set(9, 1), x.set(0, 10),
            x.say(32), x.lay(), x.need(1, 0, 0), x.least(0, 9), x.does(0, 1, 0), x.taken(1),
            x.shortBy(0, 0, 0, 2), x.slant(0, 9), x.slants(1, 0), x.saved(1), x.roll(0, 0, 0),
            x.cheaper(0, 1, 100, 1, 1, 0), x.narrow(0, 0), x.pieces(0, 0, 5), x.cut(2, 0), x.most(1, 0),
            x.usedUp(2, 0), x.pleat(1, 0), x.match(1), x.ribbon(1, 0), x.corners(0, 0, 4), x.fits(1, 0),
            x.tight(1), x.paired(2, 0), x.mark(1, 91), x.iron(2), x.hidden(0, 0, 1, 0), x.undone(90, 0),
            x.year(0, 0, 0, 0), x.image(2), x.restore(0), x.told(10)};
        for (int i = 0; i < refused.length; i++) {
            due("refused call " + i + " is below 0", -1, refused[i] < 0 ? -1 : refused[i]);
        }
        due("refused calls change nothing", 1, before.equals(stateOf(x)) ? 1 : 0);
    }
}
