/** Each promise of the document by hand-made cases; its boundary sentences are in LoopClashesBoundaries. */
public final class LoopClashesPromises {
    private static final int MIN = Integer.MIN_VALUE;
    private static final int MAX = Integer.MAX_VALUE;
    private static final int BAD_REFERENCE = -100000000;
    private static final int BAD_TURN = -200000000;
    private static final int I = code(1, 0, 0);
    private static final int J = code(0, 1, 0);
    private static final int ZERO = code(0, 0, 0);

    private static int wrong = 0;

    private static void due(String call, int got, int want) {
        if (got != want) {
            wrong++;
            System.out.println(call + " answered " + got + ", due is " + want);
        }
    }

    private static int code(int outer, int inner, int offset) {
        return 2048 * (outer + 4) + 128 * (inner + 4) + (offset + 20);
    }

    private static int[] wrongNumbers(int count) {
        return new int[] {-1, MIN, count, count + 1, 6, 7, MAX};
    }

    /** A new object with references, each given as row, column and writes. */
    private static LoopClashes loops(int outer, int inner, int... referring) {
        LoopClashes x = new LoopClashes(outer, inner);
        for (int k = 0; k < referring.length; k += 3) {
            x.refer(referring[k], referring[k + 1], referring[k + 2]);
        }
        return x;
    }

    public static void main(String[] args) {
        newObject();
        refer();
        drop();
        mode();
        references();
        place();
        placeOfEveryCode();
        clashes();
        directions();
        spans();
        first();
        uniform();
        outerFree();
        innerFree();
        exchangeable();
        footprint();
        depth();
        exampleOfReadme();
        if (wrong != 0) {
            System.out.println(wrong + " answers are not as due");
            System.exit(1);
        }
        System.out.println("all answers are as due");
    }

    private static void newObject() {
        int[] asked = {MIN, -1, 0, 1, 2, 5, 7, 8, 9, 100, MAX};
        int[] kept = {1, 1, 1, 1, 2, 5, 7, 8, 8, 8, 8};
        for (int m = 0; m < asked.length; m++) {
            for (int n = 0; n < asked.length; n++) {
                String made = "promise 1, new (" + asked[m] + ", " + asked[n] + "): ";
                LoopClashes x = new LoopClashes(asked[m], asked[n]);
                due(made + "references()", x.references(), 0);
                due(made + "refer", x.refer(I, J, 0), 0);
                int last = kept[m] * kept[n] - 1;
                due(made + "last place", x.place(0, last), 1000 * (kept[m] - 1) + kept[n] - 1);
                due(made + "place after it", x.place(0, last + 1), BAD_TURN);
            }
        }
    }

    private static void refer() {
        LoopClashes x = new LoopClashes(2, 2);
        int bad = 41;
        due("promise 2, both bad", x.refer(bad, bad, 1), -1);
        due("promise 2, row bad", x.refer(bad, I, 1), -1);
        due("promise 2, column bad", x.refer(I, bad, 1), -2);
        due("promise 2, refused calls put nothing", x.references(), 0);
        int[] writes = {0, 1, 2, -1, MIN, MAX};
        for (int k = 0; k < 6; k++) {
            due("promise 2, refer number " + k, x.refer(code(0, 0, k), ZERO, writes[k]), k);
            due("promise 2, references", x.references(), k + 1);
        }
        due("promise 2, full", x.refer(I, J, 1), -3);
        due("promise 2, full, row bad", x.refer(bad, bad, 1), -1);
        due("promise 2, full, column bad", x.refer(I, bad, 1), -2);
        due("promise 2, full stays", x.references(), 6);
        for (int k = 0; k < 6; k++) {
            due("promise 2, place of " + k, x.place(k, 0), 1000 * k);
            due("promise 2, writes " + writes[k], x.mode(k, 0), writes[k] == 0 ? 0 : 1);
        }
        due("promise 2, drop from full", x.drop(5), 5);
        due("promise 2, the end is free again", x.refer(I, J, 1), 5);
        due("promise 2, full again", x.refer(I, J, 1), -3);
    }

    private static void drop() {
        LoopClashes x = new LoopClashes(1, 1);
        for (int k = 0; k < 6; k++) {
            x.refer(code(0, 0, k), code(0, 0, 10 + k), k % 2);
        }
        for (int r : wrongNumbers(6)) {
            due("promise 3, drop(" + r + ") of 6", x.drop(r), -1);
        }
        due("promise 3, refused calls drop nothing", x.references(), 6);
        due("promise 3, in the middle", x.drop(2), 5);
        holds(x, 0, 1, 3, 4, 5);
        due("promise 3, the last", x.drop(4), 4);
        holds(x, 0, 1, 3, 4);
        due("promise 3, no longer there", x.drop(4), -1);
        due("promise 3, the first", x.drop(0), 3);
        holds(x, 1, 3, 4);
        due("promise 3, put after drops", x.refer(code(0, 0, 2), code(0, 0, 12), 0), 3);
        holds(x, 1, 3, 4, 2);
        for (int left = 3; left >= 0; left--) {
            due("promise 3, down to " + left, x.drop(0), left);
        }
        due("promise 3, none left", x.drop(0), -1);
    }

    private static void holds(LoopClashes x, int... kept) {
        due("promise 3, how many", x.references(), kept.length);
        for (int r = 0; r < kept.length; r++) {
            due("promise 3, place of " + r, x.place(r, 0), 1000 * kept[r] + 10 + kept[r]);
            due("promise 3, mode of " + r, x.mode(r, kept[r] % 2), kept[r] % 2);
        }
        due("promise 3, none after the last", x.place(kept.length, 0), BAD_REFERENCE);
    }

    private static void mode() {
        LoopClashes x = loops(1, 2, ZERO, ZERO, 0, I, ZERO, 1);
        due("promise 4, read to write", x.mode(0, -7), 0);
        due("promise 4, it writes now", x.clashes(0, 0), 1);
        due("promise 4, wrote before", x.mode(0, MIN), 1);
        due("promise 4, still writes", x.mode(0, 0), 1);
        due("promise 4, reads now", x.mode(0, 0), 0);
        due("promise 4, no clash of itself", x.clashes(0, 0), 0);
        due("promise 4, the other one is untouched", x.mode(1, 1), 1);
        for (int r : wrongNumbers(2)) {
            due("promise 4, mode(" + r + ", 1)", x.mode(r, 1), -1);
        }
        due("promise 4, refused calls change nothing", x.mode(0, 0), 0);
        due("promise 4, a new reference keeps its own mode", x.refer(ZERO, ZERO, 0), 2);
        due("promise 4, and reads", x.mode(2, 0), 0);
    }

    private static void references() {
        LoopClashes x = new LoopClashes(8, 8);
        due("promise 5, at first", x.references(), 0);
        x.refer(I, J, 1);
        x.refer(I, J, 0);
        due("promise 5, after two", x.references(), 2);
        x.refer(-1, J, 0);
        due("promise 5, after a refusal", x.references(), 2);
        x.drop(0);
        due("promise 5, after a drop", x.references(), 1);
    }

    private static void place() {
        LoopClashes x = loops(3, 4, code(4, -3, 20), code(-4, 2, -20), 1);
        due("promise 6, turn 0", x.place(0, 0), 20000 - 20);
        due("promise 6, turn 6 is (1, 2)", x.place(0, 6), 1000 * (4 - 6 + 20) + (-4 + 4 - 20));
        due("promise 6, turn 11 is (2, 3)", x.place(0, 11), 1000 * (8 - 9 + 20) + (-8 + 6 - 20));
        due("promise 6, turn 12", x.place(0, 12), BAD_TURN);
        due("promise 6, turn -1", x.place(0, -1), BAD_TURN);
        due("promise 6, turn MAX", x.place(0, MAX), BAD_TURN);
        due("promise 6, turn MIN", x.place(0, MIN), BAD_TURN);
        for (int r : wrongNumbers(1)) {
            due("promise 6, place(" + r + ", 0)", x.place(r, 0), BAD_REFERENCE);
            due("promise 6, the reference is looked at first", x.place(r, 99), BAD_REFERENCE);
        }
        LoopClashes far = loops(8, 8, code(-4, -4, -20), code(-4, -4, -20), 0, code(4, 4, 20), code(4, 4, 20), 0);
        due("promise 6, least place", far.place(0, 63), -76076);
        due("promise 6, greatest place", far.place(1, 63), 76076);
    }

    private static void placeOfEveryCode() {
        for (int outer = -4; outer <= 4; outer++) {
            for (int inner = -4; inner <= 4; inner++) {
                for (int offset = -20; offset <= 20; offset++) {
                    seesCode(outer, inner, offset);
                }
            }
        }
    }

    private static void seesCode(int outer, int inner, int offset) {
        LoopClashes x = new LoopClashes(3, 5);
        int known = code(outer, inner, offset);
        String named = "promise 6, code of " + outer + ", " + inner + ", " + offset;
        x.refer(known, ZERO, 0);
        x.refer(ZERO, known, 0);
        int[] turns = {0, 1, 4, 5, 8, 14};
        for (int turn : turns) {
            int seen = outer * (turn / 5) + inner * (turn % 5) + offset;
            due(named + " as row in turn " + turn, x.place(0, turn), 1000 * seen);
            due(named + " as column in turn " + turn, x.place(1, turn), seen);
        }
    }

    private static void clashes() {
        LoopClashes x = loops(2, 3, ZERO, ZERO, 1, ZERO, ZERO, 0, ZERO, ZERO, 0);
        due("promise 7, a writer with itself: pairs of turns", x.clashes(0, 0), 15);
        due("promise 7, lower with higher: and the same turn", x.clashes(0, 1), 21);
        due("promise 7, higher with lower: not the same turn", x.clashes(1, 0), 15);
        due("promise 7, readers do not clash", x.clashes(1, 2), 0);
        due("promise 7, a reader with itself", x.clashes(1, 1), 0);
        x.mode(2, 1);
        due("promise 7, the later one writes", x.clashes(1, 2), 21);
        LoopClashes y = loops(6, 8, I, J, 1, code(1, 0, -1), J, 0, I, code(0, 1, 1), 0);
        due("promise 7, row before", y.clashes(0, 1), 40);
        due("promise 7, its other way", y.clashes(1, 0), 0);
        due("promise 7, next column is read first", y.clashes(2, 0), 42);
        due("promise 7, never written before", y.clashes(0, 2), 0);
        LoopClashes near = loops(2, 8, I, code(0, 0, 20), 1, ZERO, code(4, 4, -8), 1);
        // The place (0, 20) is touched by 0 in the turns 0 .. 7, and by 1 in the turns 7 and 14.
        due("promise 7, both row and column count", near.clashes(0, 1), 16);
    }

    private static void directions() {
        LoopClashes x = loops(2, 3, ZERO, ZERO, 1, ZERO, ZERO, 0, I, J, 0, I, J, 1);
        due("promise 8, a single place", x.directions(0, 0), 1 << 1 | 1 << 3 | 1 << 4 | 1 << 5);
        due("promise 8, and the same turn", x.directions(0, 1), 1 | 1 << 1 | 1 << 3 | 1 << 4 | 1 << 5);
        due("promise 8, only the same turn", x.directions(2, 3), 1);
        due("promise 8, the other way none", x.directions(3, 2), 0);
        due("promise 8, readers", x.directions(1, 2), 0);
        LoopClashes y = loops(4, 4, I, ZERO, 1, J, ZERO, 1, code(1, 1, 0), ZERO, 1, code(1, -1, 0), ZERO, 1);
        due("promise 8, inner less", y.directions(0, 0), 1 << 1);
        due("promise 8, outer less", y.directions(1, 1), 1 << 3);
        due("promise 8, outer less, inner greater", y.directions(2, 2), 1 << 5);
        due("promise 8, both less", y.directions(3, 3), 1 << 4);
    }

    private static void spans() {
        LoopClashes x = loops(2, 3, ZERO, ZERO, 1, ZERO, ZERO, 0, I, code(0, 1, 9), 0);
        due("promise 9, nearest of one place", x.nearest(0, 0), 1);
        due("promise 9, nearest in the same turn", x.nearest(0, 1), 0);
        due("promise 9, nearest the other way", x.nearest(1, 0), 1);
        due("promise 9, none", x.nearest(0, 2), -2);
        due("promise 9, readers", x.nearest(1, 1), -2);
        due("promise 10, farthest of one place", x.farthest(0, 0), 5);
        due("promise 10, farthest of two", x.farthest(0, 1), 5);
        due("promise 10, none", x.farthest(0, 2), -2);
        due("promise 10, readers", x.farthest(1, 1), -2);
        LoopClashes y = loops(4, 5, I, J, 1, code(1, 0, -2), code(0, 1, 1), 0, J, ZERO, 1, I, J, 0);
        due("promise 9, two rows on, a column back", y.nearest(0, 1), 9);
        due("promise 10, two rows on, a column back", y.farthest(0, 1), 9);
        due("promise 9, column again", y.nearest(2, 2), 5);
        due("promise 10, column again", y.farthest(2, 2), 15);
        due("promise 9, only the same turn", y.nearest(0, 3), 0);
        due("promise 10, only the same turn", y.farthest(0, 3), 0);
        LoopClashes whole = loops(8, 8, ZERO, ZERO, 1);
        due("promise 10, from the first turn to the last", whole.farthest(0, 0), 63);
        LoopClashes single = loops(1, 1, ZERO, ZERO, 1);
        due("promise 9, a single turn", single.nearest(0, 0), -2);
        due("promise 10, a single turn", single.farthest(0, 0), -2);
    }

    private static void first() {
        LoopClashes x = loops(2, 3, ZERO, ZERO, 1, I, J, 0, code(1, 0, -1), code(0, 1, -2), 0, I, code(0, 1, 9), 0);
        due("promise 11, at once", x.first(0, 0), 0);
        due("promise 11, t is the turn of r", x.first(0, 2), 0);
        due("promise 11, nothing after the last turn", x.first(2, 0), -2);
        due("promise 11, reader of turn 0", x.first(1, 0), 0);
        due("promise 11, none", x.first(0, 3), -2);
        due("promise 11, readers", x.first(1, 1), -2);
        LoopClashes y = loops(3, 4, I, J, 1, code(1, 0, 1), code(0, 1, 1), 0);
        due("promise 11, the reader's turn comes first", y.first(1, 0), 0);
        due("promise 11, the other way", y.first(0, 1), -2);
        LoopClashes z = loops(2, 4, I, J, 1, I, code(0, 0, 2), 0);
        due("promise 11, from turn 2 on", z.first(0, 1), 2);
        LoopClashes last = loops(2, 2, I, J, 1, code(0, 0, 1), code(0, 0, 1), 0);
        due("promise 11, the last turn", last.first(0, 1), 3);
    }

    private static void uniform() {
        LoopClashes x = loops(4, 4, I, J, 1, code(1, 0, -1), code(0, 1, 2), 0, ZERO, ZERO, 1, I, code(0, 1, 9), 0);
        due("promise 12, the same differences", x.uniform(0, 1), 1);
        due("promise 12, many differences", x.uniform(2, 2), 0);
        due("promise 12, none", x.uniform(0, 3), 1);
        due("promise 12, readers", x.uniform(1, 1), 1);
        LoopClashes outer = loops(3, 1, ZERO, ZERO, 1);
        due("promise 12, outer differences 1 and 2", outer.uniform(0, 0), 0);
        LoopClashes inner = loops(1, 3, ZERO, ZERO, 1);
        due("promise 12, inner differences 1 and 2", inner.uniform(0, 0), 0);
        LoopClashes once = loops(1, 2, ZERO, ZERO, 1);
        due("promise 12, a single clash", once.uniform(0, 0), 1);
        // The reader of (j, i) meets the writer of (i, j) in the turns (0, 0), (3, 3) and (1, 2).
        LoopClashes turned = loops(2, 2, I, J, 1, J, I, 0);
        due("promise 12, (0, 0) and (1, -1)", turned.uniform(0, 1), 0);
        // The clashes are (1, 1), (2, 2) and (2, 3).
        LoopClashes lastDiffers = loops(2, 2, code(2, 1, 0), ZERO, 1, code(1, 0, 1), ZERO, 0);
        due("promise 12, only the last one differs", lastDiffers.uniform(0, 1), 0);
        // The clashes (0, 1), (1, 2) and (2, 3) have span 1, but the one between them crosses a row.
        LoopClashes sameSpan = loops(2, 2, code(2, 1, 0), ZERO, 1, code(2, 1, -1), ZERO, 0);
        due("promise 12, nearest of these", sameSpan.nearest(0, 1), 1);
        due("promise 12, farthest of these", sameSpan.farthest(0, 1), 1);
        due("promise 12, the same span is not the same differences", sameSpan.uniform(0, 1), 0);
    }

    private static void outerFree() {
        due("promise 13, no references", new LoopClashes(8, 8).outerFree(), 1);
        due("promise 13, only inner clashes", loops(4, 4, I, ZERO, 1).outerFree(), 1);
        due("promise 13, same turn clashes", loops(4, 4, I, J, 1, I, J, 0).outerFree(), 1);
        due("promise 13, outer clashes", loops(4, 4, J, ZERO, 1).outerFree(), 0);
        due("promise 13, outer and inner less", loops(4, 4, code(1, -1, 0), ZERO, 1).outerFree(), 0);
        due("promise 13, outer less, inner greater", loops(4, 4, code(1, 1, 0), ZERO, 1).outerFree(), 0);
        due("promise 13, readers", loops(4, 4, J, ZERO, 0, J, ZERO, 0).outerFree(), 1);
        due("promise 13, a higher one with a lower", loops(4, 4, I, J, 1, code(1, 0, 1), J, 0).outerFree(), 0);
        due("promise 13, a lower one with a higher", loops(4, 4, I, J, 1, code(1, 0, -1), J, 0).outerFree(), 0);
        due("promise 13, one outer turn", loops(1, 8, ZERO, ZERO, 1).outerFree(), 1);
    }

    private static void innerFree() {
        due("promise 14, no references", new LoopClashes(8, 8).innerFree(), 1);
        due("promise 14, inner clashes", loops(4, 4, I, ZERO, 1).innerFree(), 0);
        due("promise 14, same turn clashes", loops(4, 4, I, J, 1, I, J, 0).innerFree(), 1);
        due("promise 14, only outer clashes", loops(4, 4, J, ZERO, 1).innerFree(), 1);
        due("promise 14, outer and inner less", loops(4, 4, code(1, -1, 0), ZERO, 1).innerFree(), 1);
        due("promise 14, outer less, inner greater", loops(4, 4, code(1, 1, 0), ZERO, 1).innerFree(), 1);
        due("promise 14, readers", loops(4, 4, I, ZERO, 0, I, ZERO, 0).innerFree(), 1);
        due("promise 14, a higher one with a lower", loops(4, 4, I, J, 1, I, code(0, 1, 1), 0).innerFree(), 0);
        due("promise 14, a lower one with a higher", loops(4, 4, I, J, 1, I, code(0, 1, -1), 0).innerFree(), 0);
        due("promise 14, one inner turn", loops(8, 1, ZERO, ZERO, 1).innerFree(), 1);
    }

    private static void exchangeable() {
        due("promise 15, no references", new LoopClashes(8, 8).exchangeable(), 1);
        due("promise 15, inner clashes", loops(4, 4, I, ZERO, 1).exchangeable(), 1);
        due("promise 15, outer clashes", loops(4, 4, J, ZERO, 1).exchangeable(), 1);
        due("promise 15, outer and inner less", loops(4, 4, code(1, -1, 0), ZERO, 1).exchangeable(), 1);
        due("promise 15, outer less, inner greater", loops(4, 4, code(1, 1, 0), ZERO, 1).exchangeable(), 0);
        due("promise 15, readers", loops(4, 4, ZERO, ZERO, 0, ZERO, ZERO, 0).exchangeable(), 1);
        int up = code(1, 0, 1);
        int down = code(1, 0, -1);
        int right = code(0, 1, 1);
        int left = code(0, 1, -1);
        due("promise 15, a higher one with a lower", loops(4, 4, I, J, 1, up, left, 0).exchangeable(), 0);
        due("promise 15, a lower one with a higher", loops(4, 4, I, J, 1, down, right, 0).exchangeable(), 0);
        due("promise 15, both back", loops(4, 4, I, J, 1, down, left, 0).exchangeable(), 1);
    }

    private static void footprint() {
        LoopClashes x = loops(3, 4, I, J, 1, I, ZERO, 0, J, ZERO, 0, code(1, 1, 0), ZERO, 1, ZERO, ZERO, 0, ZERO, code(4, 1, 0), 0);
        due("promise 16, every turn its own", x.footprint(0), 12);
        due("promise 16, outer turns", x.footprint(1), 3);
        due("promise 16, inner turns", x.footprint(2), 4);
        due("promise 16, diagonals", x.footprint(3), 6);
        due("promise 16, one place", x.footprint(4), 1);
        due("promise 16, by column alone", x.footprint(5), 12);
        due("promise 16, the most", loops(8, 8, I, J, 0).footprint(0), 64);
        due("promise 16, a single turn", loops(1, 1, I, J, 0).footprint(0), 1);
    }

    private static void depth() {
        due("promise 17, no references", new LoopClashes(8, 8).depth(), 1);
        due("promise 17, readers", loops(8, 8, ZERO, ZERO, 0, ZERO, ZERO, 0).depth(), 1);
        due("promise 17, one after another", loops(8, 8, ZERO, ZERO, 1).depth(), 64);
        due("promise 17, rows at the same time", loops(3, 5, I, ZERO, 1).depth(), 5);
        due("promise 17, columns at the same time", loops(3, 5, J, ZERO, 1).depth(), 3);
        due("promise 17, same turn clashes take no step", loops(3, 5, I, J, 1, I, J, 1).depth(), 1);
        due("promise 17, a wave", loops(3, 5, I, J, 1, code(1, 0, -1), J, 0, I, code(0, 1, -1), 0).depth(), 7);
        due("promise 17, against a higher one", loops(3, 5, I, J, 1, code(1, 0, 1), J, 0).depth(), 3);
        due("promise 17, a single turn", loops(1, 1, ZERO, ZERO, 1).depth(), 1);
        LoopClashes x = loops(3, 5, J, ZERO, 1, I, ZERO, 1);
        int before = x.depth();
        due("promise 17, asked again", x.depth(), before);
        x.drop(1);
        due("promise 17, after a drop", x.depth(), 3);
        x.mode(0, 0);
        due("promise 17, after it reads", x.depth(), 1);
    }

    private static void exampleOfReadme() {
        LoopClashes x = new LoopClashes(6, 8);
        due("README, the writer", x.refer(10772, 8852, 1), 0);
        due("README, the reader", x.refer(10771, 8852, 0), 1);
        due("README, the writer's place is (i, j)", x.place(0, 11), 1003);
        due("README, the reader's place is (i - 1, j)", x.place(1, 11), 3);
        due("README, clashes(0, 1)", x.clashes(0, 1), 40);
        due("README, nearest(0, 1)", x.nearest(0, 1), 8);
        due("README, outerFree()", x.outerFree(), 0);
        due("README, innerFree()", x.innerFree(), 1);
        due("README, depth()", x.depth(), 6);
    }
}
