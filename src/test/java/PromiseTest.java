/** Each promise of the document by itself, with answers worked out by hand. */
public final class PromiseTest {
    private static final int NONE = -1000000, BAD = -1000001, STATE = -1000002, FULL = -1000003;
    private static final int NULL = -1000011, PLACE = -1000012, KIND = -1000013, SIZE = -1000014, STORE = -1000015;
    private static final int MIN = Integer.MIN_VALUE, MAX = Integer.MAX_VALUE;
    /** One of each sort: 0 honest, 1 bribed, 2 drifting, 3 a twin, 4 with a note. */
    private static final String FIVE = "w2,3;s50;s10;h20,70;b30,60;d10,90;t40,80;n5,8;";

    private static final Due due = new Due("PromiseTest");

    public static void main(String[] args) {
        rows();
        texts();
        acts();
        witnesses();
        sworn();
        foretold();
        orders();
        whereItStood();
        shifts();
        draws();
        images();
        kinds();
        asks();
        statuses();
        due.end();
    }

    private static BeatBounds told(String text) {
        BeatBounds x = new BeatBounds();
        tell(x, text);
        return x;
    }

    private static int tell(BeatBounds x, String text) {
        for (int i = 0; i < text.length(); i++) {
            x.feed(text.charAt(i));
        }
        return x.parish();
    }

    private static void same(String what, int got, int want) {
        due.is(what, got, want);
    }

    // promises 1 to 5, and 35 of rows
    private static void rows() {
        BeatBounds x = new BeatBounds();
        for (int what = 0; what <= 6; what++) {
            same("1: count(" + what + ")", x.count(what), 0);
        }
        same("1: stone", x.stone(0), BAD);
        same("1: undo", x.undo(), STATE);
        same("1: status", x.status(), 0);
        same("2: no items", x.row(0, 0, 0), 0);
        same("2: all items", x.row(7, 2, 40), 40);
        same("2: n above 40", x.row(1, 0, 41), BAD);
        same("2: lane", x.row(1, 3, 1), BAD);
        same("2: lane", x.row(1, -1, 1), BAD);
        same("2: row", x.row(8, 0, 1), BAD);
        same("2: row", x.row(-1, 0, 1), BAD);
        same("2: row ahead of size", x.row(8, 0, -1), BAD);
        same("2: size", x.row(7, 0, -1), SIZE);
        same("2: size", x.row(7, 0, MIN), SIZE);
        same("35: rows", x.count(0), 2);
        same("2: size changed nothing", x.drop(7), 40);
        same("5: it is missing", x.drop(7), NULL);
        same("5: row", x.drop(8), BAD);
        same("5: row", x.drop(-1), BAD);
        same("5: empty", x.drop(0), 0);
        same("35: rows", x.count(0), 0);
        sets();
        copies();
    }

    private static void sets() {
        BeatBounds x = told("w1,1;s0;h0,1;");
        x.row(0, 0, 2);
        x.row(1, 1, 2);
        x.row(2, 2, 2);
        same("3: byte", x.set(0, 0, 127), 127);
        same("3: byte", x.set(0, 0, 128), -128);
        same("3: byte", x.set(0, 1, 255), -1);
        same("3: byte", x.set(0, 1, 256), 0);
        same("3: byte", x.set(0, 1, -129), 127);
        same("3: short", x.set(1, 0, 32767), 32767);
        same("3: short", x.set(1, 0, 40000), -25536);
        same("3: short", x.set(1, 1, 65536), 0);
        same("3: int", x.set(2, 0, MIN), MIN);
        same("3: int", x.set(2, 1, MAX), MAX);
        same("3: behind", x.set(2, 2, 0), PLACE);
        same("3: ahead", x.set(2, -1, 0), PLACE);
        same("3: missing", x.set(3, 0, 0), NULL);
        same("3: row", x.set(8, 0, 0), BAD);
        same("3: row", x.set(-1, 0, 0), BAD);
        x.set(2, 0, 50);
        same("3: it is kept", item(x, 2, 0), 50);
        x.row(2, 2, 2);
        same("2: items are 0 again", x.stood(2, 0, 0), 4);
    }

    /** What an item is that is 3 to 102, told by where a stone stood at the least; the parish has an honest one. */
    private static int item(BeatBounds x, int row, int i) {
        return x.stood(row, i, 1) + 3;
    }

    private static void copies() {
        BeatBounds x = told("w1,1;s0;h0,1;");
        x.row(0, 2, 5);
        for (int i = 0; i < 5; i++) {
            x.set(0, i, 10 * i + 10);
        }
        same("4: upwards within a row", x.copy(0, 0, 0, 1, 4), 4);
        int[] up = {10, 10, 20, 30, 40};
        for (int i = 0; i < 5; i++) {
            same("4: item " + i, item(x, 0, i), up[i]);
        }
        same("4: downwards within a row", x.copy(0, 2, 0, 1, 3), 3);
        int[] down = {10, 20, 30, 40, 40};
        for (int i = 0; i < 5; i++) {
            same("4: item " + i, item(x, 0, i), down[i]);
        }
        x.row(1, 2, 3);
        same("4: to another", x.copy(0, 1, 1, 0, 3), 3);
        same("4: item", item(x, 1, 2), 40);
        same("4: nothing at the ends", x.copy(0, 5, 1, 3, 0), 0);
        same("4: beyond", x.copy(0, 0, 1, 0, 4), PLACE);
        same("4: beyond", x.copy(1, 1, 0, 0, 3), PLACE);
        same("4: beyond", x.copy(0, 6, 1, 0, 0), PLACE);
        same("4: below 0", x.copy(0, -1, 1, 0, 1), PLACE);
        same("4: below 0", x.copy(0, 0, 1, -1, 1), PLACE);
        same("4: below 0", x.copy(0, 0, 1, 0, -1), PLACE);
        same("4: so far that it wraps", x.copy(0, 1, 1, 0, MAX), PLACE);
        same("4: so far that it wraps", x.copy(0, MAX, 1, 0, 1), PLACE);
        same("4: so far that it wraps", x.copy(0, 0, 1, MAX, 3), PLACE);
        same("4: so far that it wraps", x.copy(0, 0, 1, 0, MIN), PLACE);
        x.row(2, 1, 3);
        same("4: store ahead of place", x.copy(0, -1, 2, 0, 1), STORE);
        same("4: null ahead of store", x.copy(3, -1, 2, 0, 1), NULL);
        same("4: null", x.copy(2, 0, 3, 0, 0), NULL);
        same("4: rows", x.copy(8, 0, 3, 0, 0), BAD);
        same("4: rows", x.copy(3, 0, -1, 0, 0), BAD);
        same("4: refused ones changed nothing", item(x, 1, 0), 20);
    }

    // promises 6 to 8
    private static void texts() {
        BeatBounds x = new BeatBounds();
        same("8: none yet", x.fault(), 0);
        same("6: letter", x.feed(-1), BAD);
        same("6: letter", x.feed(256), BAD);
        for (int i = 1; i <= 120; i++) {
            same("6: feed", x.feed(i == 1 ? 0 : 255), i);
        }
        same("6: full", x.feed(1), FULL);
        same("6: bad ahead of full", x.feed(256), BAD);
        same("35: tape", x.count(6), 120);
        same("7: no token", x.parish(), -1000100);
        same("35: the tape is empty", x.count(6), 0);
        String[] faulty = {
            "", "0 1", "x1,1;", "0 1", "w", "1 1", "w1", "2 1", "w1,", "3 1", "w1;1;", "2 1", "w1,1,", "4 1",
            "w0,1;", "1 2", "w31,1;", "1 2", "w1,0;", "3 2", "w1,31;", "3 2", "w001,1;", "1 1", "w,1;", "1 1",
            "w1,1;", "5 1", "w1,1;h1,2;", "5 1", "w1,1;s;", "6 1", "w1,1;s100;", "6 1", "w1,1;s1000;", "6 1",
            "w1,1;s1,", "7 1", "w1,1;s1;", "8 1", "w1,1;s1;w1,1;", "8 1", "w1,1;s1;h61,70;", "9 2",
            "w1,1;s1;h5,5;", "11 2", "w1,1;s1;h5,4;", "11 2", "w1,1;s1;h5,100;", "11 1", "w1,1;s1;h5,6", "12 1",
            "w1,1;s1;h5,6;s1;", "13 1", "w1,1;s1;h5,6; ", "13 1", "w1,1;s1;h5,6;7", "13 1", "W1,1;s1;h5,6;", "0 1",
            "w1,1;s1;a5,6;", "8 1", "w99,999;", "1 2", "w1,1;s1;s2;s3;s4;s5;s6;s7;h0,1;", "23 3",
            "w1,1;s1;h0,1;b0,1;d0,1;t0,1;n0,1;h0,1;n0,1;", "38 3", "w1,1;s1;h0,1;b0,1;d0,1;t0,1;n0,1;h0,1;s", "38 1"};
        for (int i = 0; i < faulty.length; i += 2) {
            int space = faulty[i + 1].indexOf(' ');
            int place = Integer.parseInt(faulty[i + 1].substring(0, space));
            same("7: " + faulty[i], tell(x, faulty[i]), -1000100 - place);
            same("8: " + faulty[i], x.fault(), Integer.parseInt(faulty[i + 1].substring(space + 1)));
            same("7: none was read", x.count(2), 0);
        }
        wholeTexts();
    }

    private static void wholeTexts() {
        BeatBounds x = told("w30,30;s0;s99;s05;s7;s8;s9;h0,1;b60,99;d00,01;t1,2;n1,2;h1,2;");
        same("7: stones", x.count(1), 6);
        same("7: witnesses", x.count(2), 6);
        same("7: a figure 0 ahead", x.stone(2), 5);
        same("7: yard", x.stone(1), 99);
        same("7: ends", x.witness(1, 1), 99);
        same("8: none yet", x.fault(), 0);
        same("7: a fault", tell(x, "w"), -1000101);
        same("7: all stays", x.count(1), 6);
        x.walk(0, 63, 9);
        x.bribe(1, 5);
        x.years(3);
        x.row(0, 0, 4);
        same("7: a fault", tell(x, "w1"), -1000102);
        same("7: all stays", x.count(3), 3);
        same("7: all stays", x.count(5), 5);
        same("7: in place of the one before", tell(x, "w1,1;s3;b60,99;b60,99;"), 2);
        same("8: the latest one", x.fault(), 1);
        same("7: stones", x.count(1), 1);
        same("7: year", x.count(3), 0);
        same("7: age", x.witness(0, 0), 60);
        same("7: no act can be undone", x.count(5), 0);
        same("7: no act can be undone", x.undo(), STATE);
        same("7: no bribe was paid", x.witness(1, 3), 0);
        same("7: nobody remembers", x.memory(0, 0, 0), NONE);
        same("7: rows stay", x.count(0), 1);
    }

    // promises 9 to 13
    private static void acts() {
        BeatBounds x = told("w2,3;s50;s10;h20,70;b60,99;d59,60;");
        same("10: stone", x.walk(2, 1, 1), BAD);
        same("10: stone", x.walk(-1, 1, 1), BAD);
        same("10: pain", x.walk(0, 1, 0), BAD);
        same("10: pain", x.walk(0, 1, 10), BAD);
        same("10: no such witness", x.walk(0, 8, 1), BAD);
        same("10: no such witness", x.walk(0, -1, 1), BAD);
        same("35: no act was done", x.count(5), 0);
        same("10: all", x.walk(0, 7, 4), 3);
        same("11: move", x.move(0, 60), 50);
        same("11: it is there", x.stone(0), 60);
        same("11: yard", x.move(0, 100), BAD);
        same("11: yard", x.move(0, -1), BAD);
        same("11: stone", x.move(2, 1), BAD);
        same("12: bribe", x.bribe(1, 20), 0);
        same("12: bribe", x.bribe(1, -20), 20);
        same("12: it is that", x.witness(1, 3), -20);
        same("12: yards", x.bribe(1, 21), BAD);
        same("12: yards", x.bribe(1, -21), BAD);
        same("12: bad ahead of state", x.bribe(0, 21), BAD);
        same("12: witness", x.bribe(3, 0), BAD);
        same("12: no bribed one", x.bribe(0, 0), STATE);
        same("12: no bribed one", x.bribe(2, 1), STATE);
        same("13: a year", x.years(1), 2);
        same("10: those too old, or dead, are not bumped", x.walk(0, 7, 9), 1);
        same("15: anew", x.memory(0, 0, 0), 60);
        same("15: anew", x.memory(0, 0, 2), 1);
        same("15: as it was", x.memory(1, 0, 0), 50);
        same("10: nobody", x.walk(0, 0, 1), 0);
        same("35: acts", x.count(5), 7);
        same("9: nobody's walk", x.undo(), 6);
        same("9: the walk", x.undo(), 5);
        same("9: the bump that was", x.memory(0, 0, 0), 50);
        same("9: the bump that was", x.memory(0, 0, 1), 4);
        same("9: the year", x.undo(), 4);
        same("9: year", x.count(3), 0);
        same("9: age", x.witness(2, 0), 59);
        same("9: the bribe", x.undo(), 3);
        same("9: the bribe that was", x.witness(1, 3), 20);
        same("9: the bribe", x.undo(), 2);
        same("9: the bribe that was", x.witness(1, 3), 0);
        same("9: the move", x.undo(), 1);
        same("9: the yard that was", x.stone(0), 50);
        same("9: the year that was", x.memory(0, 0, 2), 0);
        same("9: the walk", x.undo(), 0);
        same("9: never bumped", x.memory(0, 0, 0), NONE);
        same("9: none", x.undo(), STATE);
        manyActs();
    }

    private static void manyActs() {
        BeatBounds x = new BeatBounds();
        same("13: state ahead of bad", x.years(0), STATE);
        tell(x, "w2,3;s50;h20,70;h10,90;");
        same("13: n", x.years(0), BAD);
        same("13: n", x.years(25), BAD);
        same("13: n", x.years(MIN), BAD);
        for (int i = 1; i <= 30; i++) {
            x.move(0, i);
        }
        same("9: 24 at most", x.count(5), 24);
        for (int i = 23; i >= 0; i--) {
            same("9: undo", x.undo(), i);
            same("9: yard", x.stone(0), i + 6);
        }
        same("9: the oldest are forgotten", x.undo(), STATE);
        x.move(0, 77);
        same("13: years", x.years(24), 2);
        same("13: an act each", x.count(5), 24);
        same("9: undo", x.undo(), 23);
        same("35: year", x.count(3), 23);
        for (int i = 0; i < 40; i++) {
            same("13: years", x.years(24) >= 0 ? 1 : 0, 1);
        }
        same("35: year", x.count(3), 983);
        same("13: full", x.years(17), FULL);
        same("13: bad ahead of full", x.years(25), BAD);
        same("13: just so", x.years(16), 0);
        same("13: full", x.years(1), FULL);
        same("35: year", x.count(3), 999);
        same("14: age", x.witness(1, 0), 1009);
        same("9: undo", x.undo(), 23);
        same("13: again", x.years(1), 0);
    }

    // promises 14 to 16
    private static void witnesses() {
        BeatBounds x = told(FIVE);
        x.walk(0, 31, 4);
        x.walk(1, 31, 5);
        x.bribe(1, 7);
        x.move(0, 80);
        int[] first = {50, 57, 50, NONE, 50};
        int[] second = {10, 17, 10, 10, 10};
        int[] stones = {3, 3, 3, 2, 3};
        for (int w = 0; w < 5; w++) {
            same("15: to stone 0 of " + w, x.memory(w, 0, 3), first[w]);
            same("15: to stone 1 of " + w, x.memory(w, 1, 3), second[w]);
            same("14: stones of " + w, x.witness(w, 4), stones[w]);
        }
        same("13: the one with a note is dead", x.years(7), 4);
        same("35: alive", x.count(4), 15);
        same("14: alive", x.witness(4, 2), 0);
        same("15: its note stays", x.memory(4, 0, 3), 50);
        same("15: drift, cut", x.memory(2, 0, 3), 52);
        same("15: yard", x.memory(2, 0, 0), 50);
        same("15: pain", x.memory(2, 0, 1), 4);
        same("15: year", x.memory(2, 0, 2), 0);
        x.years(1);
        same("15: forgotten by now", x.memory(2, 0, 3), NONE);
        same("15: also with a note", x.memory(4, 0, 3), NONE);
        same("15: where it was bumped", x.memory(2, 0, 0), 50);
        same("15: remembered yet", x.memory(2, 1, 3), 12);
        same("14: stones", x.witness(4, 4), 2);
        x.years(2);
        same("14: stones", x.witness(4, 4), 0);
        same("14: age", x.witness(3, 0), 50);
        same("14: ends", x.witness(3, 1), 80);
        same("14: bribe", x.witness(1, 3), 7);
        same("14: bribe", x.witness(0, 3), 0);
        same("14: witness", x.witness(5, 0), BAD);
        same("14: what", x.witness(0, 5), BAD);
        same("14: what", x.witness(0, -1), BAD);
        same("15: witness", x.memory(5, 0, 0), BAD);
        same("15: stone", x.memory(0, 2, 0), BAD);
        same("15: what", x.memory(0, 0, 4), BAD);
        same("15: what", x.memory(0, 0, -1), BAD);
        same("16: stone", x.stone(0), 80);
        same("16: stone", x.stone(2), BAD);
        same("16: stone", x.stone(-1), BAD);
        edgesOfYards();
    }

    private static void edgesOfYards() {
        BeatBounds x = told("w30,1;s95;s3;b1,99;d1,99;h1,20;");
        x.walk(0, 7, 9);
        x.walk(1, 7, 1);
        x.bribe(0, 20);
        same("15: 99 at most", x.memory(0, 0, 3), 99);
        same("15: less than that", x.memory(0, 1, 3), 23);
        x.bribe(0, -20);
        same("15: 0 at least", x.memory(0, 1, 3), 0);
        same("15: more than that", x.memory(0, 0, 3), 75);
        x.years(18);
        same("15: 99 at most", x.memory(1, 0, 3), 99);
        same("15: less than that", x.memory(1, 1, 3), 21);
        same("14: alive at AGE below ENDS", x.witness(2, 2), 1);
        same("15: alive", x.memory(2, 1, 3), 3);
        x.years(1);
        same("14: dead at ENDS", x.witness(2, 2), 0);
        same("15: dead", x.memory(2, 1, 3), NONE);
        same("10: dead", x.walk(1, 4, 1), 0);
    }

    // promises 17 to 19, 26, 27
    private static void sworn() {
        BeatBounds x = told(FIVE);
        int[] nobody = {0, 0, NONE, NONE, NONE, NONE};
        swornAre(x, nobody);
        same("18: nobody", x.belief(0, 50, 0), STATE);
        same("18: bad ahead of state", x.belief(0, 50, 2), BAD);
        same("19: nobody", x.likeliest(0), NONE);
        same("26: nobody", x.map(0, 50), 0);
        same("27: nobody", x.agree(1), 0);
        x.walk(0, 31, 4);
        x.bribe(1, 7);
        int[] now = {4, 23, 50, 57, 50, 57};
        swornAre(x, now);
        beliefIs(x, 50, 3, 4);
        beliefIs(x, 57, 1, 4);
        beliefIs(x, 0, 0, 1);
        same("27: agree", x.agree(3), 1);
        same("27: agree", x.agree(4), 0);
        x.years(6);
        int[] later = {4, 23, 50, 57, 52, 57};
        swornAre(x, later);
        beliefIs(x, 50, 1, 2);
        same("19: likeliest", x.likeliest(0), 50);
        same("26: map", x.map(0, 50), 2);
        same("26: map", x.map(0, 57), 3);
        same("26: map", x.map(0, 99), 4);
        x.walk(1, 1, 9);
        beliefOfOne(x);
        same("27: both", x.agree(1), 3);
        same("27: one", x.agree(2), 1);
        same("27: n", x.agree(0), BAD);
        same("27: n", x.agree(7), BAD);
        same("27: state ahead of bad", new BeatBounds().agree(0), STATE);
        x.bribe(1, -1);
        x.walk(0, 1, 9);
        same("19: of several the least", x.likeliest(1), 10);
        int[] bad = {17, 18, 19, 26};
        int[] got = {x.sworn(2, 0), x.belief(2, 0, 0), x.likeliest(2), x.map(2, 0)};
        for (int i = 0; i < 4; i++) {
            same(bad[i] + ": stone", got[i], BAD);
        }
        same("17: what", x.sworn(0, 6), BAD);
        same("17: what", x.sworn(0, -1), BAD);
        same("18: yard", x.belief(0, 100, 0), BAD);
        same("18: yard", x.belief(0, -1, 0), BAD);
        same("26: yard", x.map(0, 100), BAD);
        same("26: yard", x.map(0, -1), BAD);
        tiesOfSworn();
    }

    private static void swornAre(BeatBounds x, int[] answers) {
        for (int what = 0; what < 6; what++) {
            same("17: sworn(0, " + what + ")", x.sworn(0, what), answers[what]);
        }
    }

    private static void beliefIs(BeatBounds x, int yard, int above, int below) {
        same("18: above, of " + yard, x.belief(0, yard, 0), above);
        same("18: below, of " + yard, x.belief(0, yard, 1), below);
    }

    private static void beliefOfOne(BeatBounds x) {
        same("18: all", x.belief(1, 10, 0), 1);
        same("18: all", x.belief(1, 10, 1), 1);
    }

    private static void tiesOfSworn() {
        BeatBounds x = told("w9,9;s50;b9,99;b9,99;n9,12;h9,99;");
        x.walk(0, 15, 9);
        x.bribe(0, 3);
        x.bribe(1, 3);
        same("19: of several the least", x.likeliest(0), 50);
        same("17: middle of four", x.sworn(0, 4), 53);
        same("17: of several oldest the first", x.sworn(0, 5), 53);
        x.years(4);
        same("17: the dead with a note too", x.sworn(0, 1), 15);
        same("27: two yards by two", x.agree(2), 1);
        same("27: none by three", x.agree(3), 0);
        x = told("w9,9;s50;h9,99;n10,12;");
        x.walk(0, 3, 9);
        x.years(3);
        x.move(0, 60);
        x.walk(0, 1, 9);
        same("17: the oldest is dead", x.sworn(0, 5), 50);
    }

    // promises 20 to 22
    private static void foretold() {
        BeatBounds x = told(FIVE);
        x.walk(0, 31, 4);
        same("20: till", x.till(0, 1), 8);
        same("20: till", x.till(0, 4), 8);
        same("20: now", x.till(0, 5), 0);
        same("20: now", x.till(1, 1), 0);
        same("20: n", x.till(0, 0), BAD);
        same("20: n", x.till(0, 7), BAD);
        same("20: stone", x.till(2, 1), BAD);
        tillOfNote("w11,1;s5;n5,8;", 9, 99);
        tillOfNote("w20,1;s5;n5,8;", 5, NONE);
        tillOfNote("w30,1;s5;n5,8;", 9, NONE);
        tillOfNote("w30,1;s5;h5,8;", 9, 3);
        taken(x, 5, 9, 2, 3);
        taken(x, 5, 9, 5, 31);
        taken(x, 5, 9, 6, NONE);
        taken(x, 5, 10, 1, NONE);
        taken(x, 4, 7, 4, 23);
        taken(x, 4, 7, 5, NONE);
        same("35: nothing was done", x.count(5), 1);
        same("15: nothing was done", x.memory(0, 1, 0), NONE);
        same("22: pain of the twin", x.pain(1, 7, 5), 5);
        same("22: pain", x.pain(1, 7, 4), 4);
        same("22: pain", x.pain(1, 17, 5), 9);
        same("22: pain", x.pain(1, 18, 1), NONE);
        same("22: pain", x.pain(1, 1, 1), 1);
        same("22: too many", x.pain(1, 1, 6), NONE);
        badForetold(x);
        takenOld();
    }

    private static void tillOfNote(String text, int pain, int year) {
        BeatBounds x = told(text);
        x.walk(0, 1, pain);
        same("20: " + text, x.till(0, 1), year);
        same("20: nothing was done", x.count(3), 0);
    }

    private static void taken(BeatBounds x, int pain, int k, int n, int who) {
        String call = "21: take(1, " + pain + ", " + k + ", " + n + ")";
        same(call, x.take(1, pain, k, n, 0), who == NONE ? NONE : Integer.bitCount(who));
        same(call, x.take(1, pain, k, n, 1), who);
    }

    private static void badForetold(BeatBounds x) {
        same("21: stone", x.take(2, 1, 1, 1, 0), BAD);
        same("21: pain", x.take(0, 0, 1, 1, 0), BAD);
        same("21: pain", x.take(0, 10, 1, 1, 0), BAD);
        same("21: k", x.take(0, 1, 0, 1, 0), BAD);
        same("21: k", x.take(0, 1, 61, 1, 0), BAD);
        same("21: n", x.take(0, 1, 1, 0, 0), BAD);
        same("21: n", x.take(0, 1, 1, 7, 0), BAD);
        same("21: what", x.take(0, 1, 1, 1, 2), BAD);
        same("22: stone", x.pain(2, 1, 1), BAD);
        same("22: k", x.pain(0, 0, 1), BAD);
        same("22: k", x.pain(0, 61, 1), BAD);
        same("22: n", x.pain(0, 1, 0), BAD);
        same("22: n", x.pain(0, 1, 7), BAD);
    }

    private static void takenOld() {
        BeatBounds x = told("w9,9;s1;s1;h60,99;h50,55;h20,99;");
        taken(x, 1, 4, 3, 7);
        taken(x, 1, 5, 2, 5);
        taken(x, 1, 5, 3, NONE);
        x.years(1);
        taken(x, 1, 3, 2, 6);
        taken(x, 1, 3, 3, NONE);
        same("22: too old", x.pain(1, 3, 3), NONE);
        x.walk(1, 4, 9);
        taken(x, 1, 20, 1, 0);
        taken(x, 1, 3, 2, 2);
        same("22: a bump anew is what is remembered", x.pain(1, 20, 1), 3);
        x = told("w1,1;s1;s1;n1,99;h1,99;h1,99;");
        x.walk(1, 6, 9);
        taken(x, 3, 5, 2, 0);
        taken(x, 6, 5, 3, 1);
        taken(x, 5, 5, 3, NONE);
    }

    // promise 23
    private static void orders() {
        BeatBounds x = told(FIVE);
        same("23: nobody", x.order(0, -1), 1);
        same("23: nobody", x.order(0, 0), NONE);
        x.walk(0, 31, 4);
        x.bribe(1, 7);
        x.years(6);
        same("23: one is too far", x.order(0, -1), 0);
        same("23: one is too far", x.order(0, 0), NONE);
        x.bribe(1, 4);
        // 50, 54, 52, -, 50: the bribed one stands beside the drifting one alone
        same("23: orders", x.order(0, -1), 4);
        int[] first = {0, 4, 2, 1, NONE, NONE};
        for (int k = 0; k < 6; k++) {
            same("23: place " + k, x.order(0, k), first[k]);
        }
        same("23: k", x.order(0, -2), BAD);
        same("23: k", x.order(0, 6), BAD);
        same("23: stone", x.order(2, -1), BAD);
        x = told("w9,9;s50;h9,99;h9,99;h9,99;h9,99;h9,99;h9,99;");
        x.walk(0, 63, 9);
        same("23: all orders", x.order(0, -1), 720);
        same("23: the last of the first", x.order(0, 5), 5);
        x = told("w9,9;s50;b9,99;h9,99;");
        x.walk(0, 3, 9);
        x.bribe(0, -2);
        same("23: 2 yards", x.order(0, -1), 2);
        x.bribe(0, 3);
        same("23: 3 yards", x.order(0, -1), 0);
    }

    // promise 24
    private static void whereItStood() {
        BeatBounds x = new BeatBounds();
        same("24: state ahead of bad", x.stood(8, 0, 2), STATE);
        tell(x, "w1,2;s20;d0,99;h3,50;");
        x.row(0, 2, 4);
        stoodAre(x, 20, 20, 7, 17);
        stoodAre(x, 32, 20, 4, 20);
        stoodAre(x, 35, 20, 1, 23);
        stoodAre(x, 36, 20, 0, NONE);
        stoodAre(x, -1, -1, 100, 0);
        stoodAre(x, -1, 0, 4, 0);
        stoodAre(x, -1, -2, 2, 0);
        stoodAre(x, -1, -4, 0, NONE);
        stoodAre(x, 111, -1, 1, 99);
        stoodAre(x, 112, -1, 0, NONE);
        stoodAre(x, -1, 102, 1, 99);
        stoodAre(x, -1, 103, 0, NONE);
        stoodAre(x, MIN, -1, 0, NONE);
        stoodAre(x, MAX, -1, 0, NONE);
        same("24: at the end", x.stood(0, 2, 0), 4);
        same("24: beyond", x.stood(0, 3, 0), PLACE);
        same("24: below", x.stood(0, -1, 0), PLACE);
        same("24: so far that it wraps", x.stood(0, MAX, 0), PLACE);
        same("24: missing", x.stood(1, -1, 0), NULL);
        same("24: row", x.stood(8, 0, 0), BAD);
        same("24: row", x.stood(-1, 0, 0), BAD);
        same("24: what", x.stood(0, 0, 2), BAD);
        same("24: what", x.stood(1, 0, -1), BAD);
    }

    private static void stoodAre(BeatBounds x, int drifting, int honest, int many, int least) {
        x.set(0, 0, drifting);
        x.set(0, 1, honest);
        same("24: how many by " + drifting + ", " + honest, x.stood(0, 0, 0), many);
        same("24: the least by " + drifting + ", " + honest, x.stood(0, 0, 1), least);
    }

    // promise 25
    private static void shifts() {
        BeatBounds x = told("w9,9;s50;b1,99;b1,99;h1,99;b1,3;");
        same("25: nobody", x.shift(0, 1), NONE);
        x.walk(0, 7, 9);
        x.bribe(0, 5);
        x.bribe(1, -10);
        same("25: by none", x.shift(0, 0), 0);
        same("25: by the one that says the least", x.shift(0, 1), 5);
        same("25: by two", x.shift(0, 2), 49);
        same("25: by more than there are", x.shift(0, 6), 49);
        same("15: nothing was done", x.memory(1, 0, 3), 40);
        same("25: k", x.shift(0, 7), BAD);
        same("25: k", x.shift(0, -1), BAD);
        same("25: stone", x.shift(1, 0), BAD);
        x = told("w9,9;s50;h1,99;");
        x.walk(0, 1, 9);
        same("25: no bribed one", x.shift(0, 6), 0);
    }

    // promise 28: by SEED 1 the draws are 16807, 282475249, 1622650073, 984943658, 1144108930, 470211272, ..
    private static void draws() {
        BeatBounds x = told("w2,3;s50;d20,70;");
        same("28: no year", x.drawn(0, 1, 0), 0);
        same("28: no year", x.drawn(0, 1, 1), 0);
        same("28: a walk", x.drawn(1, 1, 0), 1);
        same("28: a walk", x.drawn(1, 1, 1), 50);
        same("28: with pain 8 in the second year", x.drawn(10, 1, 1), 53);
        same("28: remembered for 16 years", x.drawn(4, 1, 1), 51);
        same("28: nothing was done", x.stone(0), 50);
        same("28: nothing was done", x.count(3), 0);
        same("28: nothing was done", x.count(5), 0);
        same("28: nothing was done", x.memory(0, 0, 0), NONE);
        x = told("w2,3;s50;s60;h20,70;n1,2;");
        same("28: to stone 1", x.drawn(1, 1, 0), 2);
        same("28: of both, one dead by then", x.drawn(1, 1, 1), 120);
        same("28: n", x.drawn(-1, 1, 0), BAD);
        same("28: n", x.drawn(61, 1, 0), BAD);
        same("28: seed", x.drawn(0, 0, 0), BAD);
        same("28: seed", x.drawn(0, 1000000, 0), BAD);
        same("28: the greatest", x.drawn(0, 999999, 0), 0);
        same("28: what", x.drawn(0, 1, 2), BAD);
        same("28: state ahead of bad", new BeatBounds().drawn(-1, 0, 2), STATE);
        x = told("w1,1;s50;h20,70;");
        same("28: pain 8 lasts 8 years", x.drawn(8, 1, 0), 1);
        same("28: pain 8 lasts 8 years", x.drawn(9, 1, 0), 0);
        // by SEED 5 the first draws are 84035, 1412376245, which 5 and 7 divide: a walk, then the stone is moved
        x = told("w2,3;s50;h20,70;");
        same("28: moved by 1", x.drawn(2, 5, 1), 51);
        x = told("w2,3;s99;h20,70;");
        same("28: walked ahead of moved", x.drawn(1, 5, 1), 99);
        same("28: 99 at most", x.drawn(2, 5, 1), 99);
        x = told("w2,3;s98;h20,70;");
        same("28: walked ahead of moved", x.drawn(1, 5, 1), 98);
    }

    // promises 29, 30
    private static void images() {
        BeatBounds x = new BeatBounds();
        same("29: no parish", x.image(0), STATE);
        same("29: k", x.image(2), BAD);
        same("29: k", x.image(-1), BAD);
        same("30: none", x.restore(0), STATE);
        same("30: k", x.restore(2), BAD);
        same("30: k", x.restore(-1), BAD);
        tell(x, FIVE);
        x.walk(0, 31, 9);
        x.bribe(1, 4);
        x.years(2);
        same("29: image", x.image(1), 1);
        same("35: acts stay", x.count(5), 4);
        x.move(0, 1);
        x.undo();
        x.undo();
        same("30: the other", x.restore(0), STATE);
        same("29: image", x.image(0), 1);
        tell(x, "w1,1;s7;h1,2;");
        same("30: of a parish before", x.restore(1), 1);
        same("30: stones", x.count(1), 2);
        same("30: witnesses", x.count(2), 5);
        same("30: year", x.count(3), 2);
        same("30: yard", x.stone(0), 50);
        same("30: bribe", x.memory(1, 0, 3), 54);
        same("30: memory", x.memory(3, 0, 3), 50);
        same("30: no act can be undone", x.count(5), 0);
        same("30: no act can be undone", x.undo(), STATE);
        x.move(0, 2);
        x.walk(0, 31, 1);
        same("30: again", x.restore(1), 1);
        same("30: no act can be undone", x.undo(), STATE);
        same("30: it was kept", x.stone(0), 50);
        same("30: it was kept", x.memory(0, 0, 1), 9);
        same("30: the other", x.restore(0), 1);
        same("30: year", x.count(3), 1);
        same("30: law", x.memory(2, 0, 3), 50);
        x.years(2);
        same("30: law", x.memory(2, 0, 3), 51);
    }

    // promises 31, 32
    private static void kinds() {
        BeatBounds x = told(FIVE);
        int[] are = {0b000011, 0b000111, 0b001011, 0b010001, 0b110001};
        for (int w = 0; w < 5; w++) {
            same("31: kind", x.kind(w), w + 1);
            for (int kind = 0; kind < 6; kind++) {
                boolean fits = (are[w] >> kind & 1) == 1;
                same("32: as(" + w + ", " + kind + ")", x.as(w, kind), fits ? w : KIND);
                same("36: status", x.status(), fits ? 0 : 3);
            }
        }
        same("31: witness", x.kind(5), BAD);
        same("31: witness", x.kind(-1), BAD);
        same("32: witness", x.as(5, 0), BAD);
        same("32: witness", x.as(-1, 0), BAD);
        same("32: kind", x.as(0, 6), BAD);
        same("32: kind", x.as(0, -1), BAD);
    }

    // promises 33, 34
    private static void asks() {
        BeatBounds x = told(FIVE);
        same("34: none yet", x.trace(0), NONE);
        x.walk(0, 31, 9);
        x.walk(1, 2, 9);
        asked(x, 0, 0, 21, 11, 10, 21, 20);
        asked(x, 0, 1, 20, 21, 20);
        asked(x, 1, 0, -64, 12, 11, 10, 24, 21, 20);
        asked(x, 1, 1, 62, 24, 21, 20);
        asked(x, 2, 0, -987, 11, 10, 22, 21, 20);
        asked(x, 2, 1, -988, 22, 21, 20);
        asked(x, 3, 0, -99, 13, 10);
        asked(x, 3, 1, 102, 23, 20, 13, 10);
        asked(x, 4, 0, -198, 14, 13, 10);
        asked(x, 4, 1, 202, 23, 20, 14, 13, 10);
        same("33: witness", x.ask(5, 0), BAD);
        same("33: witness", x.ask(-1, 0), BAD);
        same("33: what", x.ask(0, 2), BAD);
        same("33: what", x.ask(0, -1), BAD);
        same("34: what is refused changes nothing", x.trace(0), 23);
        same("34: below", x.trace(-1), NONE);
        same("34: beyond", x.trace(16), NONE);
        same("34: beyond", x.trace(MAX), NONE);
        x.years(3);
        asked(x, 0, 1, 23, 21, 20);
    }

    private static void asked(BeatBounds x, int one, int what, int answer, int... trace) {
        String call = "ask(" + one + ", " + what + ")";
        same("33: " + call, x.ask(one, what), answer);
        for (int i = 0; i < trace.length; i++) {
            same("34: trace " + i + " of " + call, x.trace(i), trace[i]);
        }
        same("34: the end of " + call, x.trace(trace.length), NONE);
    }

    // promises 35, 36
    private static void statuses() {
        BeatBounds x = new BeatBounds();
        same("35: what", x.count(-1), BAD);
        same("35: what", x.count(7), BAD);
        x.set(0, 0, 0);
        same("36: null", x.status(), 1);
        x.set(8, 0, 0);
        x.stood(0, 0, 0);
        x.feed(256);
        same("36: bad, state are not told", x.status(), 1);
        x.row(0, 0, 2);
        same("36: none", x.status(), 0);
        x.set(0, 2, 0);
        same("36: place", x.status(), 2);
        x.set(0, 0, 0);
        same("36: none", x.status(), 0);
        x.row(0, 0, -1);
        same("36: size", x.status(), 4);
        x.drop(0);
        same("36: none", x.status(), 0);
        x.drop(0);
        same("36: null", x.status(), 1);
        x.row(0, 0, 2);
        x.row(1, 1, 2);
        x.copy(0, 0, 1, 0, 1);
        same("36: store", x.status(), 5);
        tell(x, FIVE);
        x.walk(0, 31, 1);
        x.years(1);
        x.ask(0, 0);
        same("36: other calls do not count", x.status(), 5);
        x.copy(0, 0, 0, 0, 1);
        same("36: none", x.status(), 0);
        x.stood(0, 0, 0);
        same("36: place", x.status(), 2);
        x.row(0, 0, 5);
        x.stood(2, 0, 0);
        same("36: null", x.status(), 1);
        x.stood(0, 0, 0);
        same("36: none", x.status(), 0);
        x.as(0, 2);
        same("36: kind", x.status(), 3);
        x.as(0, 6);
        same("36: bad is not told", x.status(), 3);
        x.as(0, 0);
        same("36: none", x.status(), 0);
    }
}
