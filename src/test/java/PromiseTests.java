/** Each promise of the document, with answers that were worked out by hand from its words. */
public final class PromiseTests {
    static final int BAD = CrossedFirst.BAD, NO = CrossedFirst.NO, FULL = CrossedFirst.FULL,
            NONE = CrossedFirst.NONE;
    static final int LOW = Integer.MIN_VALUE, HIGH = Integer.MAX_VALUE;
    static int wrong = 0;

    static void due(String call, int got, int want) {
        if (got != want) {
            wrong++;
            System.out.println(call + " answered " + got + ", due is " + want);
        }
    }

    static CrossedFirst written(String text) {
        CrossedFirst x = new CrossedFirst();
        rewrite(x, text);
        return x;
    }

    static void rewrite(CrossedFirst x, String text) {
        x.wipe();
        for (int k = 0; k < text.length(); k++) {
            due("write " + k + " of " + text, x.write(text.charAt(k)), k + 1);
        }
    }

    static CrossedFirst laid(String text) {
        CrossedFirst x = written(text);
        if (x.lay() < 1) {
            due("lay() of " + text, NO, 1);
        }
        return x;
    }

    static void counts(String when, CrossedFirst x, int... want) {
        for (int k = 0; k < want.length; k++) {
            due(when + ": count(" + k + ")", x.count(k), want[k]);
        }
    }

    static void newObject() {
        CrossedFirst x = new CrossedFirst();
        counts("new", x, 6, 40, 2, 1, 1, 0, 0, 0, 0);
        due("new: fault()", x.fault(), NONE);
        due("new: lay()", x.lay(), NO);
        counts("new, behind lay", x, 6, 40, 2, 1, 1, 0, 0, 0, 0);
        int[][] beasts = {{3, 1, 1, 0, 1, NONE, 1}, {5, 8, 0, 2, NONE, NONE, 2},
            {7, 6, 2, 0, NONE, NONE, 3}, {4, 3, 3, 0, NONE, 0, 4}, {6, 4, 0, 1, NONE, 0, 5},
            {2, 2, 0, 0, NONE, 0, 0}};
        for (int i = 0; i < beasts.length; i++) {
            for (int what = 0; what < 7; what++) {
                due("new: beast(" + i + ", " + what + ")", x.beast(i, what), beasts[i][what]);
            }
        }
        due("new: harvest(1)", x.harvest(1), 7);
        due("new: order(0)", x.order(0), 1);
    }

    static void writeAndWipe() {
        CrossedFirst x = new CrossedFirst();
        for (int letter : new int[] {31, 127, -1, 0, 98 + 256, LOW, HIGH}) {
            due("write(" + letter + ")", x.write(letter), BAD);
        }
        due("count(8)", x.count(8), 0);
        due("write(32)", x.write(32), 1);
        due("write(126)", x.write(126), 2);
        for (int k = 3; k <= 200; k++) {
            due("write(59)", x.write(59), k);
        }
        due("write(59) when full", x.write(59), FULL);
        due("write(31) when full", x.write(31), BAD);
        due("count(8) when full", x.count(8), 200);
        due("wipe()", x.wipe(), 200);
        due("wipe() of nothing", x.wipe(), 0);
        due("write behind wipe", x.write(59), 1);
    }

    static void faults() {
        String b = "b1,1,0,0;";
        String two = b + b;
        String eight = two + two + two + two;
        Object[][] rows = {
            {"", NONE}, {b, NONE}, {"w1;", NONE}, {"w99;", NONE}, {"w0;", 0}, {"w00;", 0},
            {"w09;", NONE}, {"w100;", 0}, {"w009;", 0}, {"b001,1,0,0;", 0}, {"w;", 0}, {"w1", 0}, {"w1,2;", 0}, {"w1,;", 0},
            {"w 1;", 0}, {" w1;", 0}, {"w1; ", 3}, {"w1;;", 3}, {"W1;", 0}, {"w-1;", 0},
            {"b9,9,3,30;", NONE}, {"b09,09,03,30;", NONE}, {"b10,1,0,0;", 0}, {"b0,1,0,0;", 0},
            {"b1,0,0,0;", 0}, {"b1,10,0,0;", 0}, {"b1,1,4,0;", 0}, {"b1,1,0,31;", 0},
            {"b1,1,0;", 0}, {"b1,1,0,0,0;", 0}, {"b1,1,0,0", 0}, {"b1;1;0;0;", 0},
            {eight, NONE}, {eight + b, 72}, {eight + "s7;", NONE}, {eight + "s8;", 72},
            {"c0,0;", NONE}, {"c99,5;", NONE}, {"c0,6;", 0}, {"c0;", 0},
            {"c1,1;c1,1;c1,1;c1,1;", NONE}, {"c1,1;c1,1;c1,1;c1,1;c1,1;", 20},
            {two + "r0,1;", NONE}, {two + "r1,0;r0,1;", NONE}, {two + "r0,0;", 18},
            {two + "r2,0;", 18}, {two + "r0,2;", 18}, {"r0,1;" + two, 0}, {b + "r0,1;" + b, 9},
            {two + b + "a0,1,2;", NONE}, {two + b + "a0,1,2;a2,1,0;", NONE},
            {two + b + "a0,1,2;a2,1,0;a0,1,2;", 41}, {two + b + "a0,1,1;", 27},
            {two + b + "a0,1,0;", 27}, {two + b + "a1,1,0;", 27}, {two + "a0,1,2;", 18},
            {two + b + "a3,0,1;", 27}, {two + b + "a0,3,1;", 27}, {two + b + "a0,1,3;", 27},
            {two + b + "a0,1;", 27}, {b + "s0;s0;s0;", NONE}, {b + "s1;", 9}, {"s0;", 0},
            {b + "v0,1;v0,8;", NONE}, {b + "v0,0;", 9}, {b + "v0,9;", 9}, {b + "v1,1;", 9},
            {b + "y0,0;y0,99;", NONE}, {b + "y1,1;", 9}, {b + "y0,100;", 9}, {b + "x0;", 9},
            {b + "w1;b1,1,0,0;c1,6;w0;", 21},
        };
        for (Object[] row : rows) {
            due("fault() of " + row[0], written((String) row[0]).fault(), (Integer) row[1]);
        }
        due("fault() of 200 letters", written("w1;".repeat(66) + "w1").fault(), 198);
        due("fault() of 200 letters", written("w1;".repeat(66) + "ww").fault(), 198);
        due("fault() of 199 letters", written("w1;".repeat(65) + "w12;").fault(), NONE);
        // Letters that were wiped are gone.
        CrossedFirst x = written("w12;w3;");
        for (String text : new String[] {"w", "w1", "w12"}) {
            rewrite(x, text);
            due("fault() of " + text + " behind a wipe", x.fault(), 0);
        }
        rewrite(x, "w12;");
        due("fault() of w12; behind a wipe", x.fault(), NONE);
    }

    static void lay() {
        String b = "b1,1,0,0;";
        String six = b + b + b + b + b + b;
        String[] notLaid = {"", "w9;", b + "w0;", six + "r0,1;r1,2;", six + "r1,2;r0,1;",
            six + "r0,1;r1,0;", six + "a0,1,2;a2,3,4;", six + "a0,1,2;r0,3;", six + "r0,3;a0,1,2;"};
        for (String text : notLaid) {
            CrossedFirst x = written(text);
            x.seen(0, 1);
            x.start(0, 5);
            x.keep();
            due("lay() of " + text, x.lay(), NO);
            counts("not laid", x, 6, 40, 2, 1, 1, 1, 1, 1, text.length());
        }
        String[] isLaid = {b, six + "r0,1;r1,2;r0,2;", six + "r3,0;a0,1,2;", six + "a0,1,2;a3,4,5;",
            six + "r0,2;r1,2;"};
        int[] beasts = {1, 6, 6, 6, 6};
        for (int k = 0; k < isLaid.length; k++) {
            CrossedFirst x = written(isLaid[k]);
            x.seen(0, 1);
            x.start(0, 5);
            x.keep();
            due("lay() of " + isLaid[k], x.lay(), beasts[k]);
            due("width without w", x.count(1), 30);
            counts("laid", x, beasts[k]);
            due("SEEN behind lay", x.count(5), 0);
            due("UNDONE behind lay", x.undo(), NO);
            due("KEPT behind lay", x.restore(), NO);
            due("letters behind lay", x.count(8), isLaid[k].length());
        }
        CrossedFirst x = laid(six + "w7;w8;");
        due("the last w", x.count(1), 8);
        due("lay() once more", x.lay(), 6);
    }

    static void beast() {
        CrossedFirst x = laid("b9,8,3,30;b1,2,1,7;b3,3,2,0;b4,4,0,1;b5,5,0,2;"
                + "s3;s1;s3;r0,1;r0,2;a4,3,1;");
        int[][] want = {{9, 8, 3, 30, 2, NONE, 2}, {1, 2, 1, 7, NONE, 0, 1},
            {3, 3, 2, 0, NONE, NONE, 3}, {4, 4, 0, 1, NONE, 0, 0}, {5, 5, 0, 2, NONE, 0, 4}};
        for (int i = 0; i < want.length; i++) {
            for (int what = 0; what < 7; what++) {
                due("beast(" + i + ", " + what + ")", x.beast(i, what), want[i][what]);
            }
        }
        due("beast(5, 0)", x.beast(5, 0), BAD);
        due("beast(-1, 0)", x.beast(-1, 0), BAD);
        due("beast(0, 7)", x.beast(0, 7), BAD);
        due("beast(0, -1)", x.beast(0, -1), BAD);
        due("beast(LOW, HIGH)", x.beast(LOW, HIGH), BAD);
        CrossedFirst second = laid("b1,1,0,0;b1,1,0,0;b1,1,0,0;b1,1,0,0;b1,1,0,0;b1,1,0,0;a0,2,4;a1,3,5;");
        due("beast(3, 5)", second.beast(3, 5), 1);
    }

    static void current() {
        CrossedFirst x = laid("b1,1,0,0;c20,4;c5,1;c5,3;c99,0;");
        int[][] rows = {{1, 0}, {4, 0}, {5, 3}, {19, 3}, {20, 4}, {98, 4}, {99, 0}, {200, 0},
            {0, BAD}, {201, BAD}, {LOW, BAD}, {HIGH, BAD}};
        for (int[] row : rows) {
            due("current(" + row[0] + ")", x.current(row[0]), row[1]);
        }
        due("current(1) of c0", laid("b1,1,0,0;c0,2;").current(1), 2);
        due("current(1) without c", laid("b1,1,0,0;").current(1), 0);
    }

    static void whereRow(String text, int i, int... far) {
        CrossedFirst x = laid(text);
        for (int m = 0; m < far.length; m++) {
            due("where(" + i + ", " + m + ") of " + text, x.where(i, m), far[m]);
        }
    }

    static void where() {
        whereRow("b5,1,0,1;w12;c0,2;", 0, 0, 0, 3, 6, 9, 12, 12, 12);
        whereRow("b2,1,0,0;w5;c0,5;", 0, 0, 1, 2, 3, 4, 5, 5);
        whereRow("b4,1,1,0;w50;c1,1;c2,0;c3,3;", 0, 0, 4, 8, 10, 12);
        whereRow("b4,1,2,0;w50;c0,1;", 0, 0, 3, 6, 9, 12, 12, 15, 18, 21, 24, 24, 27);
        whereRow("b4,1,3,1;w50;", 0, 0, 0, 0, 0, 0, 4, 8);
        // A helper that starts behind 6 helps in 11, not in 6; another helper is not helped.
        whereRow("b4,1,0,0;b1,1,2,6;w60;c0,2;", 0, 0, 2, 4, 6, 8, 10, 12, 14, 16, 18, 20, 24, 26);
        whereRow("b4,1,0,0;b1,1,2,5;w60;c0,2;", 0, 0, 2, 4, 6, 8, 10, 14, 16);
        whereRow("b4,1,0,0;b1,1,2,0;w60;c0,2;", 0, 0, 2, 4, 6, 8, 10, 14, 16);
        whereRow("b4,1,0,0;b1,1,2,0;w60;c0,2;r1,0;", 0, 0, 2, 4, 6, 8, 10, 14, 16);
        whereRow("b4,1,2,0;b1,1,2,0;w60;c0,2;", 0, 0, 2, 4, 6, 8, 8, 10, 12);
        // Riders: a third of all their weight, cut; they are where the one is.
        String ridden = "b9,1,0,0;b1,4,0,9;b1,4,2,30;w60;r1,0;r2,0;";
        whereRow(ridden, 0, 0, 7, 14, 21, 28, 35, 42);
        whereRow(ridden, 1, 0, 7, 14, 21, 28, 35, 42);
        whereRow(ridden, 2, 0, 7, 14, 21, 28, 35, 42);
        whereRow("b9,1,0,0;b1,2,0,9;w60;r1,0;", 1, 0, 9, 18);
        // Rafts: all three must have started; neither kinds nor riders nor help matter.
        String raft = "b9,1,1,0;b8,1,2,2;b3,1,3,1;b1,9,0,0;w60;c0,2;a2,0,1;r3,1;";
        whereRow(raft, 2, 0, 0, 0, 4, 8, 12, 16, 20);
        whereRow(raft, 3, 0, 0, 0, 4, 8, 12, 16, 20);
        whereRow("b9,1,0,0;b8,1,0,0;b3,1,0,0;w60;a2,0,1;", 1, 0, 6, 12, 18);
        CrossedFirst x = laid("b5,1,0,1;w12;");
        due("where(0, 200)", x.where(0, 200), 12);
        due("where(0, 201)", x.where(0, 201), BAD);
        due("where(0, -1)", x.where(0, -1), BAD);
        due("where(1, 0)", x.where(1, 0), BAD);
        due("where(-1, 0)", x.where(-1, 0), BAD);
        due("where(HIGH, LOW)", x.where(HIGH, LOW), BAD);
    }

    static void landsAndRanks() {
        CrossedFirst x = laid("b5,1,0,0;b5,1,0,0;b9,1,0,0;b1,1,0,0;b2,1,0,0;b3,3,0,0;"
                + "w10;s5;s1;r3,2;r4,2;r5,0;s4;");
        // 2 bears 1 and 1: 9 a stroke; 0 bears 3: 4 a stroke.
        int[] minutes = {3, 2, 2, 2, 2, 3};
        int[] ranks = {6, 1, 4, 3, 2, 5};
        for (int i = 0; i < 6; i++) {
            due("lands(" + i + ")", x.lands(i), minutes[i]);
            due("rank(" + i + ")", x.rank(i), ranks[i]);
            due("who(" + ranks[i] + ")", x.who(ranks[i]), i);
        }
        for (int i : new int[] {-1, 6, 8, LOW, HIGH}) {
            due("lands(" + i + ")", x.lands(i), BAD);
            due("rank(" + i + ")", x.rank(i), BAD);
        }
        for (int rank : new int[] {-1, 0, 7, LOW, HIGH}) {
            due("who(" + rank + ")", x.who(rank), BAD);
        }
        // The slowest that a text can tell still lands: 99 strokes, a pause in each fifth minute.
        due("lands(0) of the slowest", laid("b1,1,2,30;w99;").lands(0), 153);
    }

    static void start() {
        CrossedFirst x = laid("b5,1,0,3;b4,1,0,0;w10;");
        due("rank(0)", x.rank(0), 2);
        due("start(0, 0)", x.start(0, 0), 3);
        due("rank(0) behind it", x.rank(0), 1);
        due("beast(0, 3)", x.beast(0, 3), 0);
        due("start(0, 30)", x.start(0, 30), 0);
        due("start(0, 30) again", x.start(0, 30), 30);
        due("count(6)", x.count(6), 3);
        due("start(0, 31)", x.start(0, 31), BAD);
        due("start(0, -1)", x.start(0, -1), BAD);
        due("start(2, 0)", x.start(2, 0), BAD);
        due("start(-1, 0)", x.start(-1, 0), BAD);
        due("start(LOW, HIGH)", x.start(LOW, HIGH), BAD);
        due("count(6) behind BAD", x.count(6), 3);
        due("beast(0, 3) behind BAD", x.beast(0, 3), 30);
    }

    static void rideAndLeave() {
        CrossedFirst x = laid("b5,1,0,0;b5,1,0,0;b5,1,0,0;b5,1,0,0;b5,1,0,0;b5,1,0,0;a3,4,5;");
        due("ride(0, 1)", x.ride(0, 1), NONE);
        due("ride(0, 2)", x.ride(0, 2), 1);
        due("ride(0, 2) again", x.ride(0, 2), 2);
        due("count(4)", x.count(4), 1);
        due("ride(1, 0): 0 rides", x.ride(1, 0), NO);
        due("ride(2, 1): 0 rides on 2", x.ride(2, 1), NO);
        due("ride(2, 0): one on the other", x.ride(2, 0), NO);
        due("ride(3, 1): in a raft", x.ride(3, 1), NO);
        due("ride(3, 3)", x.ride(3, 3), BAD);
        due("ride(0, 6)", x.ride(0, 6), BAD);
        due("ride(6, 0)", x.ride(6, 0), BAD);
        due("ride(-1, 0)", x.ride(-1, 0), BAD);
        due("ride(0, -1)", x.ride(0, -1), BAD);
        due("ride(0, NONE)", x.ride(0, NONE), BAD);
        due("ride(1, 4): on a raft", x.ride(1, 4), NONE);
        due("count(4)", x.count(4), 2);
        due("count(6)", x.count(6), 4);
        due("leave(1)", x.leave(1), 4);
        due("leave(1) again", x.leave(1), NO);
        due("leave(2)", x.leave(2), NO);
        due("leave(6)", x.leave(6), BAD);
        due("leave(-1)", x.leave(-1), BAD);
        due("beast(1, 4)", x.beast(1, 4), NONE);
        due("count(6)", x.count(6), 5);
    }

    static void undo() {
        CrossedFirst x = laid("b5,1,0,3;b4,1,0,0;");
        due("undo() of nothing", x.undo(), NO);
        x.ride(0, 1);
        x.start(0, 9);
        x.leave(0);
        due("undo() of leave", x.undo(), 2);
        due("beast(0, 4)", x.beast(0, 4), 1);
        due("undo() of start", x.undo(), 1);
        due("beast(0, 3)", x.beast(0, 3), 3);
        due("undo() of ride", x.undo(), 0);
        due("beast(0, 4)", x.beast(0, 4), NONE);
        due("undo() of nothing", x.undo(), NO);
        for (int t = 10; t < 20; t++) {
            x.start(1, t);
        }
        due("count(6)", x.count(6), 8);
        for (int left = 7; left >= 0; left--) {
            due("undo()", x.undo(), left);
            due("beast(1, 3)", x.beast(1, 3), 11 + left);
        }
        due("undo() of the ninth", x.undo(), NO);
        undoMixed();
    }

    /** Ten changes of several beasts: the two oldest stay. */
    static void undoMixed() {
        CrossedFirst x = laid("b5,1,0,3;b4,1,0,4;b4,1,0,5;b4,1,0,6;");
        x.start(0, 7);
        x.ride(1, 2);
        x.ride(0, 3);
        x.start(2, 8);
        x.leave(1);
        x.ride(0, 2);
        x.start(3, 9);
        x.ride(1, 3);
        x.leave(0);
        x.start(1, 10);
        for (int left = 7; left >= 0; left--) {
            due("undo() of mixed", x.undo(), left);
        }
        int[] starts = {7, 4, 5, 6};
        int[] carriers = {NONE, 2, NONE, NONE};
        for (int i = 0; i < 4; i++) {
            due("mixed: beast(" + i + ", 3)", x.beast(i, 3), starts[i]);
            due("mixed: beast(" + i + ", 4)", x.beast(i, 4), carriers[i]);
        }
    }

    static void late() {
        CrossedFirst x = laid("b5,1,0,0;b5,1,0,2;b9,1,0,29;w10;");
        // 0 lands in 2, 1 in 4, 2 in 31; of those alike the lower is ahead.
        due("late(0)", x.late(0), 2);
        due("late(1)", x.late(1), 29);
        due("late(2)", x.late(2), 30);
        due("late(3)", x.late(3), BAD);
        due("late(-1)", x.late(-1), BAD);
        due("beast(0, 3) behind late", x.beast(0, 3), 0);
        due("count(6) behind late", x.count(6), 0);
        // Later is not always worse for a helper: behind 9 or 10 it would help the other one in 11
        // and be second, behind 11 or 12 it would not and be first.
        CrossedFirst y = laid("b9,1,2,0;b6,1,0,0;w27;c0,5;");
        due("rank of the helper", y.rank(0), 1);
        due("late of the helper", y.late(0), 12);
    }

    static void back() {
        CrossedFirst x = laid("b1,1,0,0;b9,1,0,0;b9,1,0,0;b3,9,0,0;b3,9,0,0;b3,9,0,0;b2,1,0,0;"
                + "a3,4,5;r6,2;w18;");
        due("back(0, 0)", x.back(0, 0), 1);
        due("back(0, 1)", x.back(0, 1), 1);
        // 6 rides on 2 already; on 1, who lands as soon and speaks ahead, it would be first.
        due("back(6, 0)", x.back(6, 0), 1);
        due("back(6, 1)", x.back(6, 1), 1);
        due("back(1, 0): on nobody is as good", x.back(1, 0), NONE);
        due("back(1, 1)", x.back(1, 1), 1);
        due("back(2, 0): ridden", x.back(2, 0), NO);
        due("back(3, 0): in a raft", x.back(3, 0), NO);
        due("back(0, 2)", x.back(0, 2), BAD);
        due("back(3, 2)", x.back(3, 2), BAD);
        due("back(0, -1)", x.back(0, -1), BAD);
        due("back(7, 0)", x.back(7, 0), BAD);
        due("back(-1, 0)", x.back(-1, 0), BAD);
        due("beast(0, 4) behind back", x.beast(0, 4), NONE);
        due("beast(6, 4) behind back", x.beast(6, 4), 2);
        CrossedFirst y = laid("b1,1,0,0;b6,1,0,0;b6,1,0,0;b6,1,0,0;w18;a1,2,3;");
        due("back(0, 0) on a raft", y.back(0, 0), 1);
        due("back(0, 1) on a raft", y.back(0, 1), 1);
        // Whoever bears 0 lands in 3, the two others in 2: the lowest of three.
        CrossedFirst z = laid("b1,9,0,0;b9,1,0,0;b9,1,0,0;b9,1,0,0;w13;");
        due("back(0, 0), the lowest", z.back(0, 0), 1);
        due("back(0, 1), the lowest", z.back(0, 1), 3);
    }

    static void twos() {
        due("twos()", laid("b1,1,1,0;b1,2,1,0;b1,2,0,0;b1,3,0,0;").twos(), 2);
        due("twos() of alike weights", laid("b1,5,1,0;b1,5,0,0;").twos(), 0);
        due("twos() of light ones", laid("b1,1,1,0;b1,5,1,0;").twos(), 0);
        due("twos() of heavy ones", laid("b1,1,0,0;b1,5,2,0;b1,7,3,0;").twos(), 0);
        due("twos() one on each", laid("b1,1,1,0;b1,1,1,0;b1,9,3,0;").twos(), 1);
        due("twos() whoever rides", laid("b1,1,1,0;b1,9,2,0;b1,9,0,0;r1,0;").twos(), 1);
        due("twos() without rafts", laid("b1,1,1,0;b1,9,2,0;b1,9,0,0;b1,9,0,0;a1,2,3;").twos(), 0);
        due("twos() without light ones in rafts",
                laid("b1,1,1,0;b1,9,2,0;b1,9,0,0;b1,1,1,0;b1,9,0,0;a0,1,2;").twos(), 1);
        due("twos() with the heaviest", laid("b1,8,1,0;b1,1,1,0;b1,1,1,0;b1,9,0,0;b1,2,0,0;").twos(), 2);
    }

    static void bridge() {
        // In minute m 0 is at 5m and 1 at 9(m - 1): 0 is first over 1 to 15 and over 19 and 20.
        CrossedFirst x = laid("b5,1,0,0;b9,1,0,1;");
        due("bridge(-1)", x.bridge(-1), 3);
        due("bridge(0)", x.bridge(0), 17);
        due("bridge(1)", x.bridge(1), 82);
        due("bridge(2)", x.bridge(2), BAD);
        due("bridge(-2)", x.bridge(-2), BAD);
        due("bridge(LOW)", x.bridge(LOW), BAD);
        due("count(1) behind bridge", x.count(1), 30);
        // The rider who speaks first is ahead of the one that bears it.
        CrossedFirst y = laid("b9,1,0,0;b1,1,0,0;b1,1,0,0;r1,0;r2,0;s2;");
        due("bridge(-1) with riders", y.bridge(-1), 4);
        due("bridge(2) with riders", y.bridge(2), 99);
        // 0 is at 98 in minute 14, 1 at 99.
        CrossedFirst z = laid("b7,1,0,0;b9,1,0,3;");
        due("bridge(-1) of the widest", z.bridge(-1), 3);
        due("bridge(1) of the widest", z.bridge(1), 1);
        due("bridge(0) of the widest", z.bridge(0), 98);
    }

    static void calm() {
        String three = "b9,1,0,0;b5,1,0,0;b2,1,0,0;";
        CrossedFirst x = laid(three + "v0,3;v1,1;v2,1;");
        // Ranks 1, 2, 3. 0 and 1: 0 comes nearer to 3, 1 to 1. 0 and 2 too. 1 and 2: 1 does not.
        due("calm(0)", x.calm(0), 2);
        due("calm(1)", x.calm(1), 1);
        due("calm(2)", x.calm(2), BAD);
        due("calm(-1)", x.calm(-1), BAD);
        CrossedFirst none = laid(three + "v0,3;");
        due("calm(0) of one want", none.calm(0), 0);
        due("calm(1) of one want", none.calm(1), NONE);
        CrossedFirst asNear = laid(three + "v0,2;v2,1;");
        due("calm(0): as near is not nearer", asNear.calm(0), 0);
        CrossedFirst far = laid(three + "v1,8;v2,2;");
        due("calm(1): 1 and 2", far.calm(1), 10);
    }

    static void order() {
        String four = "b9,1,0,0;b5,1,0,0;b2,1,0,0;b1,1,0,0;";
        CrossedFirst x = laid(four + "v3,1;v2,1;v0,8;");
        // 0 takes rank 4 (4 off); 2 and 3 take 1 and 2 (1 off), the lower first; 1 takes 3.
        int[] want = {5, 2, 3, 1, 0};
        for (int rank = 0; rank < want.length; rank++) {
            due("order(" + rank + ")", x.order(rank), want[rank]);
        }
        due("order(5)", x.order(5), BAD);
        due("order(-1)", x.order(-1), BAD);
        CrossedFirst nobody = laid(four + "s3;");
        for (int rank = 1; rank <= 4; rank++) {
            due("order(" + rank + ") without wants", nobody.order(rank), rank - 1);
        }
        due("order(0) without wants", nobody.order(0), 0);
        CrossedFirst last = laid(four + "v0,1;v0,4;");
        due("order(4): the last want", last.order(4), 0);
    }

    static void harvest() {
        CrossedFirst x = laid("b2,1,0,0;b9,1,0,0;b5,1,0,0;y0,7;y1,90;y1,20;");
        int[][] rows = {{1, 20}, {2, 20}, {3, 27}, {4, 47}, {99, 33 * 27}, {0, BAD}, {100, BAD},
            {-1, BAD}, {HIGH, BAD}};
        for (int[] row : rows) {
            due("harvest(" + row[0] + ")", x.harvest(row[0]), row[1]);
        }
    }

    static void odds() {
        // 0 lands in 2, 1 in 2 and speaks behind; a flood in minute 1 holds up 0 alone.
        CrossedFirst x = laid("b3,1,0,0;b6,1,0,1;w6;");
        int[][] rows = {{0, 0, 5, 1, 1}, {1, 0, 5, 0, 1}, {0, 1, 3, 7, 10}, {1, 1, 3, 3, 10},
            {0, 1, 5, 1, 2}, {0, 2, 5, 1, 2}, {1, 5, 4, 2, 5}, {0, 5, 0, 1, 1}, {0, 5, 10, 0, 1},
            {1, 5, 10, 1, 1}, {1, 1, 0, 0, 1}};
        for (int[] row : rows) {
            String call = "odds(" + row[0] + ", " + row[1] + ", " + row[2] + ", ";
            due(call + "0)", x.odds(row[0], row[1], row[2], 0), row[3]);
            due(call + "1)", x.odds(row[0], row[1], row[2], 1), row[4]);
        }
        int[][] bad = {{2, 0, 0, 0}, {-1, 0, 0, 0}, {0, 6, 0, 0}, {0, -1, 0, 0}, {0, 0, 11, 0},
            {0, 0, -1, 0}, {0, 0, 0, 2}, {0, 0, 0, -1}, {LOW, HIGH, LOW, HIGH}};
        for (int[] row : bad) {
            due("odds(" + row[0] + ", ..)", x.odds(row[0], row[1], row[2], row[3]), BAD);
        }
        // 1 sleeps through 1 to 3, flooded or not, and lands in 4; 0 is there by 4 too, and speaks
        // first, unless 1 to 3 are all flooded.
        CrossedFirst z = laid("b3,1,0,0;b9,1,3,0;w6;");
        due("odds above", z.odds(1, 3, 5, 0), 1);
        due("odds below", z.odds(1, 3, 5, 1), 8);
    }

    static void seenAndRides() {
        CrossedFirst x = laid("b9,1,0,0;b5,6,0,0;b2,1,0,0;w18;r2,0;");
        due("rides(0) of nothing seen", x.rides(0), 7);
        due("rides(1) of nothing seen", x.rides(1), 1);
        due("seen(2, 4)", x.seen(2, 4), BAD);
        due("seen(2, 0)", x.seen(2, 0), BAD);
        due("seen(3, 1)", x.seen(3, 1), BAD);
        due("seen(-1, 1)", x.seen(-1, 1), BAD);
        due("seen(1, 1)", x.seen(1, 1), 1);
        // 1 is first if 0 rides on 2 or 1 rides on 0; else 0 is ahead.
        due("rides(0)", x.rides(0), 2);
        due("rides(1)", x.rides(1), 2);
        due("seen(0, 1)", x.seen(0, 1), 2);
        due("rides(0) of what cannot be", x.rides(0), 0);
        due("rides(1) of what cannot be", x.rides(1), NONE);
        due("count(5)", x.count(5), 2);
        due("forget()", x.forget(), 2);
        due("forget() of nothing", x.forget(), 0);
        due("beast(2, 4) behind rides", x.beast(2, 4), 0);
        due("rides(2)", x.rides(2), BAD);
        due("rides(-1)", x.rides(-1), BAD);
        for (int k = 1; k <= 6; k++) {
            due("seen(0, 1)", x.seen(0, 1), k);
        }
        due("seen(0, 1), a seventh", x.seen(0, 1), FULL);
        due("seen(0, 4), a seventh", x.seen(0, 4), BAD);
        due("forget()", x.forget(), 6);
        // Nobody riding is told behind all others, as 64.
        CrossedFirst one = laid("b9,1,0,0;");
        due("rides(0) of one", one.rides(0), 1);
        due("rides(1) of one", one.rides(1), 64);
    }

    static void river() {
        // By z = 0 the current takes 3 in each of minutes 1 to 3.
        due("river(0, 1), 2 yards", laid("b5,1,0,0;w2;c0,5;").river(0, 1), 1);
        due("river(0, 1), 3 yards", laid("b5,1,0,0;w3;").river(0, 1), 2);
        CrossedFirst x = laid("b5,1,0,0;b9,1,0,1;b2,1,0,0;w6;r2,1;s2;");
        due("river(0, 0)", x.river(0, 0), 2);
        due("river(0, 1)", x.river(0, 1), 3);
        // By z = 9999 it takes 2 in minute 1; x times x is far above what an int holds.
        due("river(9999, 1), 7 yards", laid("b9,1,0,0;w7;").river(9999, 1), 1);
        due("river(9999, 1), 8 yards", laid("b9,1,0,0;w8;").river(9999, 1), 2);
        due("river(10000, 0)", x.river(10000, 0), BAD);
        due("river(-1, 0)", x.river(-1, 0), BAD);
        due("river(0, 2)", x.river(0, 2), BAD);
        due("river(0, -1)", x.river(0, -1), BAD);
        due("current(1) behind river", x.current(1), 0);
        due("lands(0) behind river", x.lands(0), 2);
    }

    static void keepAndRestore() {
        CrossedFirst x = laid("b5,1,0,3;b4,1,0,0;b3,1,0,0;");
        due("restore() of nothing", x.restore(), NO);
        x.ride(0, 1);
        x.start(0, 9);
        due("keep()", x.keep(), 1);
        due("count(6) behind keep", x.count(6), 2);
        x.leave(0);
        x.start(2, 8);
        due("keep()", x.keep(), 2);
        due("keep(), a third", x.keep(), FULL);
        due("count(7)", x.count(7), 2);
        x.ride(2, 0);
        x.seen(0, 1);
        due("restore()", x.restore(), 1);
        due("undo() behind restore", x.undo(), NO);
        due("SEEN behind restore", x.count(5), 1);
        due("beast(2, 4)", x.beast(2, 4), NONE);
        due("beast(2, 3)", x.beast(2, 3), 8);
        due("beast(0, 4)", x.beast(0, 4), NONE);
        x.start(1, 5);
        due("restore()", x.restore(), 0);
        due("beast(0, 4)", x.beast(0, 4), 1);
        due("beast(0, 3)", x.beast(0, 3), 9);
        due("beast(1, 3)", x.beast(1, 3), 0);
        due("beast(2, 3)", x.beast(2, 3), 0);
        due("restore() of nothing", x.restore(), NO);
    }

    static void count() {
        CrossedFirst x = laid("b1,1,0,0;b1,1,0,0;b1,1,0,0;b1,1,0,0;a0,1,2;w7;c1,1;c1,1;c2,0;r3,0;");
        counts("count", x, 4, 7, 3, 1, 1, 0, 0, 0, 66);
        x.seen(0, 1);
        x.keep();
        x.start(0, 1);
        x.leave(3);
        x.write(59);
        counts("count", x, 4, 7, 3, 1, 0, 1, 2, 1, 67);
        for (int what : new int[] {-1, 9, LOW, HIGH}) {
            due("count(" + what + ")", x.count(what), BAD);
        }
    }

    public static void main(String[] args) {
        newObject();
        writeAndWipe();
        faults();
        lay();
        beast();
        current();
        where();
        landsAndRanks();
        start();
        rideAndLeave();
        undo();
        late();
        back();
        twos();
        bridge();
        calm();
        order();
        harvest();
        odds();
        seenAndRides();
        river();
        keepAndRestore();
        count();
        System.out.println(wrong == 0 ? "all answers are as due" : wrong + " answers are not as due");
        if (wrong != 0) {
            System.exit(1);
        }
    }
}
