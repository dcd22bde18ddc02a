import java.util.ArrayList;
import java.util.HashSet;
import java.util.LinkedHashMap;
import java.util.List;
import java.util.Map;
import java.util.Set;

/** Each sentence of the document that names a boundary case, with a test of its own. */
public final class LoopClashesBoundaries {
    private interface Call {
        int on(LoopClashes x);
    }

    private interface OfReference {
        int ask(LoopClashes x, int r);
    }

    private interface OfPair {
        int ask(LoopClashes x, int r, int s);
    }

    private interface OfDifference {
        void look(LoopClashes x, int m, int n, int down, int across);
    }

    private static final int MIN = Integer.MIN_VALUE;
    private static final int MAX = Integer.MAX_VALUE;
    private static final int BAD_REFERENCE = -100000000;
    private static final int BAD_TURN = -200000000;
    private static final int I = code(1, 0, 0);
    private static final int J = code(0, 1, 0);
    private static final int ZERO = code(0, 0, 0);
    private static final int NO_CODE = 41;
    private static final int[] NOT_ZERO = {1, -1, 2, 256, 65536, MIN, MAX};

    private static String sentence = "";
    private static int toldOfSentence = 0;
    private static int wrong = 0;

    private static void sentence(String words) {
        sentence = words;
        toldOfSentence = 0;
    }

    private static void due(String call, int got, int want) {
        if (got != want) {
            report(call + " answered " + got + ", due is " + want);
        }
    }

    private static void report(String fault) {
        wrong++;
        toldOfSentence++;
        // A few of each, so that one broken sentence does not hide another.
        if (toldOfSentence <= 5) {
            System.out.println(sentence + " | " + fault);
        }
    }

    private static int code(int outer, int inner, int offset) {
        return 2048 * (outer + 4) + 128 * (inner + 4) + (offset + 20);
    }

    private static LoopClashes loops(int outer, int inner, int... rowColumnWrites) {
        LoopClashes x = new LoopClashes(outer, inner);
        for (int k = 0; k < rowColumnWrites.length; k += 3) {
            x.refer(rowColumnWrites[k], rowColumnWrites[k + 1], rowColumnWrites[k + 2]);
        }
        return x;
    }

    /** As many references to one and the same place. */
    private static LoopClashes onOnePlace(int outer, int inner, int count, int writes) {
        LoopClashes x = new LoopClashes(outer, inner);
        for (int k = 0; k < count; k++) {
            x.refer(ZERO, ZERO, writes);
        }
        return x;
    }

    public static void main(String[] args) {
        terms();
        newObject();
        changes();
        places();
        pairs();
        wholeLoops();
        if (wrong != 0) {
            System.out.println(wrong + " answers are not as due");
            System.exit(1);
        }
        System.out.println("all answers are as due");
    }

    private static void terms() {
        firstAndLastTurns();
        turnNumbersGoOnInTheNextOuterTurn();
        atMostSixReferences();
        factorsAndOffsetsAtTheirEnds();
        sameTurnInTheOrderOfNumbers();
        atLeastOneWrites();
        samePlaceInRowAndColumn();
        directionOfEveryDifference();
        spanOfEveryDifference();
        questionsChangeNothing();
        refusedCallsChangeNothing();
        testsInTheOrderNamed();
        goodIfThereIsSuchAReference();
    }

    private static void newObject() {
        belowOneBecomesOne();
        aboveEightBecomesEight();
        outerAndInnerAreKeptApart();
        noReferencesAtFirst();
    }

    private static void changes() {
        referPutsAtTheEnd();
        referRefusesRow();
        referRefusesColumn();
        referRefusesTheSeventh();
        writesNotZero();
        laterOnesGetNumbersLessByOne();
        dropRefuses();
        dropAnswersHowManyAreLeft();
        modeFlag();
        modeRefuses();
        modeAnswersWhatWasBefore();
        referencesFromNoneToFull();
    }

    private static void places() {
        placeAtTheTablesEnds();
        placeRefusesReference();
        placeRefusesTurn();
        footprintFromOneToAll();
        footprintRefuses();
    }

    private static void pairs() {
        refusesPairs("Promise 7, clashes", LoopClashes::clashes);
        refusesPairs("Promise 8, directions", LoopClashes::directions);
        refusesPairs("Promise 9, nearest", LoopClashes::nearest);
        refusesPairs("Promise 10, farthest", LoopClashes::farthest);
        refusesPairs("Promise 11, first", LoopClashes::first);
        refusesPairs("Promise 12, uniform", LoopClashes::uniform);
        saysNoneWithoutClash("Promise 9, nearest", LoopClashes::nearest);
        saysNoneWithoutClash("Promise 10, farthest", LoopClashes::farthest);
        saysNoneWithoutClash("Promise 11, first", LoopClashes::first);
        clashesWithItself();
        clashesFromNoneToTheMost();
        directionsFromNoneToTheMost();
        leastSpan();
        greatestSpan();
        leastFirstTurn();
        uniformWithoutClash();
        uniformUnlessADifferenceDiffers();
    }

    private static void wholeLoops() {
        outerFreeUnlessOuterTurnsDiffer();
        innerFreeUnlessOnlyInnerTurnsDiffer();
        exchangeableUnlessTheyCross();
        everyPairOfReferencesCounts();
        depthFromOneToAll();
        depthOfEveryDifference();
        depthWaitsForAllTurns();
    }

    // Terms

    private static void firstAndLastTurns() {
        sentence("Terms: \"turns i = 0 .. M-1 and .. j = 0 .. N-1 in each of them\"");
        for (int m = 1; m <= 8; m++) {
            for (int n = 1; n <= 8; n++) {
                String made = "new (" + m + ", " + n + "): ";
                LoopClashes x = loops(m, n, I, J, 0, ZERO, ZERO, 1);
                due(made + "first turn", x.place(0, 0), 0);
                due(made + "last turn", x.place(0, m * n - 1), 1000 * (m - 1) + n - 1);
                due(made + "turns that touch", x.footprint(0), m * n);
                due(made + "turns that run", x.depth(), m * n);
                due(made + "from first to last", x.farthest(1, 1), m * n == 1 ? -2 : m * n - 1);
            }
        }
    }

    private static void turnNumbersGoOnInTheNextOuterTurn() {
        sentence("Terms: \"A TURN (i, j) has the number N * i + j\"");
        for (int n = 1; n <= 8; n++) {
            LoopClashes x = loops(8, n, I, J, 0);
            for (int i = 0; i < 8; i++) {
                due("N = " + n + ", first turn of row " + i, x.place(0, n * i), 1000 * i);
                due("N = " + n + ", last turn of row " + i, x.place(0, n * i + n - 1), 1000 * i + n - 1);
            }
        }
    }

    private static void atMostSixReferences() {
        sentence("Terms: \"a list of at most 6 REFERENCES, numbered 0, 1, 2, ..\"");
        LoopClashes x = new LoopClashes(8, 8);
        for (int k = 0; k < 6; k++) {
            due("refer as number " + k, x.refer(code(0, 0, k), ZERO, 1), k);
        }
        for (int k = 0; k < 3; k++) {
            due("refer to the full list", x.refer(ZERO, ZERO, 1), -3);
        }
        due("references()", x.references(), 6);
        for (int k = 0; k < 6; k++) {
            due("place(" + k + ", 0)", x.place(k, 0), 1000 * k);
        }
        due("place(6, 0)", x.place(6, 0), BAD_REFERENCE);
    }

    private static void factorsAndOffsetsAtTheirEnds() {
        sentence("Terms: \"numbers a, b, d, e in -4 .. 4 and c, f in -20 .. 20\"");
        int[][] ends = {{-4, 0, 0}, {4, 0, 0}, {0, -4, 0}, {0, 4, 0}, {0, 0, -20}, {0, 0, 20},
            {-4, -4, -20}, {-4, -4, 20}, {-4, 4, -20}, {-4, 4, 20},
            {4, -4, -20}, {4, -4, 20}, {4, 4, -20}, {4, 4, 20}};
        for (int[] end : ends) {
            String named = end[0] + " * i + " + end[1] + " * j + " + end[2];
            LoopClashes x = new LoopClashes(2, 2);
            int known = code(end[0], end[1], end[2]);
            due("refer with row " + named, x.refer(known, ZERO, 0), 0);
            due("refer with column " + named, x.refer(ZERO, known, 0), 1);
            for (int turn = 0; turn < 4; turn++) {
                int seen = end[0] * (turn / 2) + end[1] * (turn % 2) + end[2];
                due("row " + named + " in turn " + turn, x.place(0, turn), 1000 * seen);
                due("column " + named + " in turn " + turn, x.place(1, turn), seen);
            }
        }
        int[][] beyond = {{-5, 0, 0}, {5, 0, 0}, {0, -5, 0}, {0, 5, 0}, {0, 0, -21}, {0, 0, 21}};
        for (int[] end : beyond) {
            String named = end[0] + " * i + " + end[1] + " * j + " + end[2];
            LoopClashes x = new LoopClashes(2, 2);
            int unknown = code(end[0], end[1], end[2]);
            due("refer with row " + named, x.refer(unknown, ZERO, 0), -1);
            due("refer with column " + named, x.refer(ZERO, unknown, 0), -2);
        }
    }

    private static void sameTurnInTheOrderOfNumbers() {
        sentence("Terms: \"t before u, or t = u and r < s\"");
        LoopClashes single = onOnePlace(1, 1, 6, 1);
        LoopClashes two = onOnePlace(1, 2, 6, 1);
        for (int r = 0; r < 6; r++) {
            for (int s = 0; s < 6; s++) {
                String of = "(" + r + ", " + s + ")";
                due("one turn, clashes" + of, single.clashes(r, s), r < s ? 1 : 0);
                due("two turns, clashes" + of, two.clashes(r, s), r < s ? 3 : 1);
            }
        }
    }

    private static void atLeastOneWrites() {
        sentence("Terms: \"at least one of them writes\"");
        for (int one = 0; one <= 1; one++) {
            for (int other = 0; other <= 1; other++) {
                LoopClashes x = loops(1, 2, ZERO, ZERO, one, ZERO, ZERO, other);
                String modes = "writes " + one + " and " + other + ": ";
                due(modes + "clashes(0, 1)", x.clashes(0, 1), 3 * (one | other));
                due(modes + "clashes(1, 0)", x.clashes(1, 0), one | other);
                due(modes + "clashes(0, 0)", x.clashes(0, 0), one);
                due(modes + "clashes(1, 1)", x.clashes(1, 1), other);
            }
        }
    }

    private static void samePlaceInRowAndColumn() {
        sentence("Terms: \"touch the same place\"");
        int[] offsets = {-20, -1, 0, 1, 20};
        for (int row : offsets) {
            for (int column : offsets) {
                LoopClashes x = loops(1, 1, ZERO, ZERO, 1, code(0, 0, row), code(0, 0, column), 0);
                int want = row == 0 && column == 0 ? 1 : 0;
                due("(0, 0) and (" + row + ", " + column + ")", x.clashes(0, 1), want);
            }
        }
    }

    /** Reference 0 writes (i, j) and 1 reads (i - down, j - across), so that all their clashes differ alike. */
    private static void everyDifference(OfDifference test) {
        for (int m = 1; m <= 8; m++) {
            for (int n = 1; n <= 8; n++) {
                for (int down = 0; down < m; down++) {
                    for (int across = 1 - n; across < n; across++) {
                        LoopClashes x = loops(m, n, I, J, 1, code(1, 0, -down), code(0, 1, -across), 0);
                        test.look(x, m, n, down, across);
                    }
                }
            }
        }
    }

    private static String named(int m, int n, int down, int across) {
        return "new (" + m + ", " + n + "), difference (" + down + ", " + across + "): ";
    }

    /** Whether what reads comes after what writes; otherwise it is in the same outer turn and before it. */
    private static boolean readsLater(int down, int across) {
        return down > 0 || across >= 0;
    }

    private static void directionOfEveryDifference() {
        sentence("Terms: \"x is 0 if .. the same in both, 1 if it is less in t, 2 if it is greater in t\"");
        everyDifference((x, m, n, down, across) -> {
            int outerSide = down == 0 ? 0 : 1;
            int innerSide = across == 0 ? 0 : across > 0 ? 1 : 2;
            boolean later = readsLater(down, across);
            String made = named(m, n, down, across);
            due(made + "directions(0, 1)", x.directions(0, 1), later ? 1 << 3 * outerSide + innerSide : 0);
            due(made + "directions(1, 0)", x.directions(1, 0), later ? 0 : 1 << 1);
        });
    }

    private static void spanOfEveryDifference() {
        sentence("Terms: \"Its SPAN is the number of u less that of t\"");
        everyDifference((x, m, n, down, across) -> {
            boolean later = readsLater(down, across);
            int span = n * down + across;
            String made = named(m, n, down, across);
            due(made + "nearest(0, 1)", x.nearest(0, 1), later ? span : -2);
            due(made + "farthest(0, 1)", x.farthest(0, 1), later ? span : -2);
            due(made + "nearest(1, 0)", x.nearest(1, 0), later ? -2 : -span);
            due(made + "farthest(1, 0)", x.farthest(1, 0), later ? -2 : -span);
        });
    }

    /** Six unlike references, half of them writing, of which the first so many are put. */
    private static LoopClashes unlike(int count) {
        int[][] all = {{I, J, 1}, {code(1, 0, -1), J, 0}, {code(1, 1, 0), ZERO, 1},
            {ZERO, code(0, 1, 1), 0}, {J, I, 1}, {code(1, -1, 1), code(0, 2, -1), 0}};
        LoopClashes x = new LoopClashes(2, 3);
        for (int k = 0; k < count; k++) {
            x.refer(all[k][0], all[k][1], all[k][2]);
        }
        return x;
    }

    private static void putPairs(Map<String, Call> calls, int r, int s) {
        String of = "(" + r + ", " + s + ")";
        calls.put("clashes" + of, x -> x.clashes(r, s));
        calls.put("directions" + of, x -> x.directions(r, s));
        calls.put("nearest" + of, x -> x.nearest(r, s));
        calls.put("farthest" + of, x -> x.farthest(r, s));
        calls.put("first" + of, x -> x.first(r, s));
        calls.put("uniform" + of, x -> x.uniform(r, s));
    }

    private static Map<String, Call> everyQuestion() {
        Map<String, Call> questions = new LinkedHashMap<>();
        questions.put("references()", LoopClashes::references);
        questions.put("outerFree()", LoopClashes::outerFree);
        questions.put("innerFree()", LoopClashes::innerFree);
        questions.put("exchangeable()", LoopClashes::exchangeable);
        questions.put("depth()", LoopClashes::depth);
        for (int k = 0; k < 6; k++) {
            int r = k;
            questions.put("footprint(" + r + ")", x -> x.footprint(r));
            for (int turn : new int[] {0, 1, 3, 5}) {
                questions.put("place(" + r + ", " + turn + ")", x -> x.place(r, turn));
            }
            for (int s = 0; s < 6; s++) {
                putPairs(questions, r, s);
            }
        }
        return questions;
    }

    /** Calls of which at least one answers otherwise if anything has changed. */
    private static Map<String, Call> everyLook() {
        Map<String, Call> looks = everyQuestion();
        for (int k = 0; k < 6; k++) {
            int r = k;
            looks.put("mode(" + r + ", 0)", x -> x.mode(r, 0));
        }
        looks.put("refer(i, j, 1)", x -> x.refer(I, J, 1));
        return looks;
    }

    /** Each look is on an object of its own: if looking itself changed something, the next look would not show it. */
    private static void leaveAllAsItWas(int count, Map<String, Call> calls) {
        everyLook().forEach((look, answer) -> {
            int want = answer.on(unlike(count));
            calls.forEach((named, call) -> {
                LoopClashes x = unlike(count);
                call.on(x);
                due(look + " after " + named + " of " + count, answer.on(x), want);
            });
        });
    }

    private static void questionsChangeNothing() {
        sentence("Terms: \"No question changes anything\"");
        for (int count = 0; count <= 6; count++) {
            leaveAllAsItWas(count, everyQuestion());
        }
    }

    private static void refusedCallsChangeNothing() {
        sentence("Terms: \"A refused call changes nothing\"");
        for (int count = 0; count <= 6; count++) {
            Map<String, Call> refused = new LinkedHashMap<>();
            refused.put("refer with no row", x -> x.refer(NO_CODE, J, 1));
            refused.put("refer with no column", x -> x.refer(I, NO_CODE, 1));
            refused.put("refer with neither", x -> x.refer(MIN, MAX, 1));
            refused.put("place(0, -1)", x -> x.place(0, -1));
            refused.put("place(0, 6)", x -> x.place(0, 6));
            if (count == 6) {
                refused.put("refer to the full list", x -> x.refer(ZERO, ZERO, 1));
            }
            for (int bad : wrongNumbers(count)) {
                refused.put("drop(" + bad + ")", x -> x.drop(bad));
                refused.put("mode(" + bad + ", 0)", x -> x.mode(bad, 0));
                refused.put("mode(" + bad + ", 1)", x -> x.mode(bad, 1));
                refused.put("place(" + bad + ", 0)", x -> x.place(bad, 0));
                refused.put("footprint(" + bad + ")", x -> x.footprint(bad));
                putPairs(refused, bad, 0);
                putPairs(refused, 0, bad);
            }
            leaveAllAsItWas(count, refused);
        }
    }

    private static void testsInTheOrderNamed() {
        sentence("Terms: \"In every method the tests are made in the order named\"");
        LoopClashes full = onOnePlace(2, 2, 6, 0);
        due("refer: row, column and room", full.refer(NO_CODE, NO_CODE, 1), -1);
        due("refer: row and room", full.refer(NO_CODE, ZERO, 1), -1);
        due("refer: column and room", full.refer(ZERO, NO_CODE, 1), -2);
        due("refer: room alone", full.refer(ZERO, ZERO, 1), -3);
        LoopClashes free = onOnePlace(2, 2, 1, 0);
        due("refer: row and column", free.refer(NO_CODE, NO_CODE, 1), -1);
        due("place: reference and turn", free.place(1, 4), BAD_REFERENCE);
        due("place: reference and turn below 0", free.place(-1, -1), BAD_REFERENCE);
        due("place: turn alone", free.place(0, 4), BAD_TURN);
        due("nearest: reference, and no clash", free.nearest(0, 1), -1);
        due("farthest: reference, and no clash", free.farthest(1, 0), -1);
        due("first: reference, and no clash", free.first(0, -1), -1);
        due("uniform: reference, and no clash", free.uniform(-1, 0), -1);
        due("clashes: reference, and no clash", free.clashes(0, 1), -1);
        due("directions: reference, and no clash", free.directions(1, 0), -1);
    }

    /** Below 0, just above the last one, and numbers that would be good if only their low bits were looked at. */
    private static int[] wrongNumbers(int count) {
        return new int[] {-1, -2, MIN, count, count + 1, 6, 7, 256, 65536, MAX};
    }

    private static void goodIfThereIsSuchAReference() {
        sentence("Terms: \"a reference is good if there is such a reference\"");
        for (int count = 0; count <= 6; count++) {
            LoopClashes grown = onOnePlace(2, 2, count, 1);
            LoopClashes shrunk = onOnePlace(2, 2, 6, 1);
            for (int k = 6; k > count; k--) {
                shrunk.drop(0);
            }
            for (int r = -1; r <= 7; r++) {
                int want = r >= 0 && r < count ? 1 : -1;
                due("grown to " + count + ", footprint(" + r + ")", grown.footprint(r), want);
                due("shrunk to " + count + ", footprint(" + r + ")", shrunk.footprint(r), want);
                due("shrunk to " + count + ", mode(" + r + ", 1)", shrunk.mode(r, 1), want);
            }
        }
    }

    private static void refuses(String of, OfReference call, int want) {
        sentence(of + ": \"" + want + " if r is not good\"");
        for (int count = 0; count <= 6; count++) {
            LoopClashes x = onOnePlace(2, 2, count, 1);
            for (int bad : wrongNumbers(count)) {
                due("of " + count + ", r = " + bad, call.ask(x, bad), want);
            }
            due("references() after these", x.references(), count);
            for (int r = count - 1; r >= 0; r--) {
                if (call.ask(x, r) == want) {
                    report("of " + count + ", r = " + r + " is refused");
                }
            }
        }
    }

    // Promise 1

    private static void holdsTurns(int outer, int inner, int m, int n) {
        String made = "new (" + outer + ", " + inner + "): ";
        LoopClashes x = loops(outer, inner, I, J, 1);
        due(made + "footprint(0)", x.footprint(0), m * n);
        due(made + "last turn", x.place(0, m * n - 1), 1000 * (m - 1) + n - 1);
        due(made + "no turn after it", x.place(0, m * n), BAD_TURN);
    }

    private static void belowOneBecomesOne() {
        sentence("Promise 1: \"below 1 becomes 1\"");
        int[] small = {1, 0, -1, -8, -256, MIN + 1, MIN};
        for (int asked : small) {
            holdsTurns(asked, 3, 1, 3);
            holdsTurns(3, asked, 3, 1);
            holdsTurns(asked, asked, 1, 1);
        }
        holdsTurns(2, 2, 2, 2);
    }

    private static void aboveEightBecomesEight() {
        sentence("Promise 1: \"above 8 becomes 8\"");
        int[] large = {8, 9, 10, 16, 64, 256, 65536, MAX - 1, MAX};
        for (int asked : large) {
            holdsTurns(asked, 3, 8, 3);
            holdsTurns(3, asked, 3, 8);
            holdsTurns(asked, asked, 8, 8);
        }
        holdsTurns(7, 7, 7, 7);
    }

    private static void outerAndInnerAreKeptApart() {
        sentence("Promise 1: \"outer is M, inner is N\"");
        holdsTurns(MIN, MAX, 1, 8);
        holdsTurns(MAX, MIN, 8, 1);
        holdsTurns(0, 9, 1, 8);
        holdsTurns(9, 0, 8, 1);
        for (int m = 1; m <= 8; m++) {
            for (int n = 1; n <= 8; n++) {
                holdsTurns(m, n, m, n);
            }
        }
    }

    private static void noReferencesAtFirst() {
        sentence("Promise 1: \"No references at first\"");
        int[][] sizes = {{1, 1}, {8, 8}, {0, 9}, {9, 0}};
        for (int[] size : sizes) {
            LoopClashes x = new LoopClashes(size[0], size[1]);
            due("references()", x.references(), 0);
            due("drop(0)", x.drop(0), -1);
            due("mode(0, 1)", x.mode(0, 1), -1);
            due("place(0, 0)", x.place(0, 0), BAD_REFERENCE);
            due("clashes(0, 0)", x.clashes(0, 0), -1);
            due("footprint(0)", x.footprint(0), -1);
            due("the first refer", x.refer(ZERO, ZERO, 0), 0);
        }
    }

    // Promises 2 to 5

    private static void referPutsAtTheEnd() {
        sentence("Promise 2: \"Puts a reference at the end of the list\", \"otherwise answers its number\"");
        LoopClashes x = new LoopClashes(1, 1);
        due("refer to the empty list", x.refer(code(0, 0, 1), ZERO, 0), 0);
        due("refer after one", x.refer(code(0, 0, 2), ZERO, 0), 1);
        due("the one before it", x.place(0, 0), 1000);
        due("the one at the end", x.place(1, 0), 2000);
        x.drop(0);
        due("refer after a drop", x.refer(code(0, 0, 3), ZERO, 0), 1);
        due("the one before it, moved up", x.place(0, 0), 2000);
        due("the one at the end after a drop", x.place(1, 0), 3000);
        x.drop(1);
        x.drop(0);
        due("refer to the list emptied again", x.refer(code(0, 0, 4), ZERO, 0), 0);
        for (int k = 1; k < 6; k++) {
            x.refer(ZERO, ZERO, 0);
        }
        x.drop(3);
        due("refer to the last room", x.refer(code(0, 0, 5), ZERO, 0), 5);
        due("the one in the last room", x.place(5, 0), 5000);
    }

    private static Set<Integer> everyCode() {
        Set<Integer> known = new HashSet<>();
        for (int outer = -4; outer <= 4; outer++) {
            for (int inner = -4; inner <= 4; inner++) {
                for (int offset = -20; offset <= 20; offset++) {
                    known.add(code(outer, inner, offset));
                }
            }
        }
        return known;
    }

    /** All numbers around the codes, and far ones of which only the low bits are a code. */
    private static List<Integer> numbersToTry() {
        List<Integer> numbers = new ArrayList<>();
        for (int number = -20000; number <= 70000; number++) {
            numbers.add(number);
        }
        for (int shift = 17; shift < 32; shift++) {
            numbers.add(1 << shift);
            numbers.add((1 << shift) + ZERO);
            numbers.add(-(1 << shift));
            numbers.add(ZERO - (1 << shift));
        }
        numbers.add(MAX);
        numbers.add(MIN + 1);
        return numbers;
    }

    private static void referRefusesRow() {
        sentence("Promise 2: \"-1 if row is not such a number\"");
        Set<Integer> known = everyCode();
        for (int number : numbersToTry()) {
            LoopClashes x = new LoopClashes(1, 1);
            due("refer(" + number + ", code, 1)", x.refer(number, ZERO, 1), known.contains(number) ? 0 : -1);
        }
    }

    private static void referRefusesColumn() {
        sentence("Promise 2: \"-2 if column is not\"");
        Set<Integer> known = everyCode();
        for (int number : numbersToTry()) {
            LoopClashes x = new LoopClashes(1, 1);
            due("refer(code, " + number + ", 1)", x.refer(ZERO, number, 1), known.contains(number) ? 0 : -2);
        }
    }

    private static void referRefusesTheSeventh() {
        sentence("Promise 2: \"-3 if there are 6 references\"");
        LoopClashes x = onOnePlace(8, 8, 5, 0);
        due("the sixth", x.refer(ZERO, ZERO, 0), 5);
        due("the seventh", x.refer(ZERO, ZERO, 0), -3);
        due("the seventh again", x.refer(I, J, 1), -3);
        x.drop(0);
        due("the sixth after a drop", x.refer(ZERO, ZERO, 0), 5);
        due("the seventh after a drop", x.refer(ZERO, ZERO, 0), -3);
    }

    private static void writesNotZero() {
        sentence("Promise 2: \"writes not 0 makes it write\"");
        for (int writes : NOT_ZERO) {
            LoopClashes x = loops(1, 2, ZERO, ZERO, writes);
            due("writes " + writes + ", clashes(0, 0)", x.clashes(0, 0), 1);
            due("writes " + writes + ", mode(0, 0)", x.mode(0, 0), 1);
        }
        LoopClashes x = loops(1, 2, ZERO, ZERO, 0);
        due("writes 0, clashes(0, 0)", x.clashes(0, 0), 0);
        due("writes 0, mode(0, 0)", x.mode(0, 0), 0);
        LoopClashes again = loops(1, 2, ZERO, ZERO, 1);
        again.drop(0);
        again.refer(ZERO, ZERO, 0);
        due("writes 0 where a writer was", again.mode(0, 0), 0);
    }

    private static void laterOnesGetNumbersLessByOne() {
        sentence("Promise 3: \"Takes a reference out; later ones get numbers less by one\"");
        for (int count = 1; count <= 6; count++) {
            for (int out = 0; out < count; out++) {
                LoopClashes x = new LoopClashes(1, 1);
                for (int k = 0; k < count; k++) {
                    x.refer(code(0, 0, k), code(0, 0, -k), k % 2);
                }
                x.drop(out);
                String of = "drop(" + out + ") of " + count + ", ";
                for (int r = 0; r < count - 1; r++) {
                    int was = r < out ? r : r + 1;
                    due(of + "place(" + r + ", 0)", x.place(r, 0), 1000 * was - was);
                    due(of + "mode(" + r + ", 0)", x.mode(r, 0), was % 2);
                }
                due(of + "place of the last number", x.place(count - 1, 0), BAD_REFERENCE);
            }
        }
    }

    private static void dropRefuses() {
        refuses("Promise 3, drop", LoopClashes::drop, -1);
        LoopClashes x = onOnePlace(1, 1, 1, 1);
        x.drop(0);
        due("drop(0) of the list emptied again", x.drop(0), -1);
        due("references()", x.references(), 0);
    }

    private static void dropAnswersHowManyAreLeft() {
        sentence("Promise 3: \"otherwise answers how many are left\"");
        LoopClashes fromFront = onOnePlace(1, 1, 6, 1);
        LoopClashes fromEnd = onOnePlace(1, 1, 6, 1);
        for (int left = 5; left >= 0; left--) {
            due("drop(0)", fromFront.drop(0), left);
            due("drop(" + left + ")", fromEnd.drop(left), left);
        }
    }

    private static void modeFlag() {
        sentence("Promise 4: \"Makes a reference write (flag not 0) or read (flag 0)\"");
        for (int flag : NOT_ZERO) {
            LoopClashes x = onOnePlace(1, 2, 6, 0);
            x.mode(0, flag);
            x.mode(5, flag);
            due("flag " + flag + ", clashes(0, 0)", x.clashes(0, 0), 1);
            due("flag " + flag + ", clashes(5, 5)", x.clashes(5, 5), 1);
            due("the others still read", x.clashes(1, 4), 0);
            x.mode(0, 0);
            due("flag 0, clashes(0, 0)", x.clashes(0, 0), 0);
            due("the last one still writes", x.clashes(5, 5), 1);
        }
    }

    private static void modeRefuses() {
        refuses("Promise 4, mode with flag 0", (x, r) -> x.mode(r, 0), -1);
        refuses("Promise 4, mode with flag 1", (x, r) -> x.mode(r, 1), -1);
    }

    private static void modeAnswersWhatWasBefore() {
        sentence("Promise 4: \"otherwise 1 if it wrote before, else 0\"");
        LoopClashes x = loops(1, 1, ZERO, ZERO, MIN, ZERO, ZERO, 0);
        due("wrote from the start", x.mode(0, 1), 1);
        due("wrote, goes on", x.mode(0, MAX), 1);
        due("wrote with a great flag", x.mode(0, 0), 1);
        due("read, goes on", x.mode(0, 0), 0);
        due("read, then writes", x.mode(0, MIN), 0);
        due("wrote with a flag below 0", x.mode(0, 0), 1);
        due("read from the start", x.mode(1, 0), 0);
    }

    private static void referencesFromNoneToFull() {
        sentence("Promise 5: \"How many references there are\"");
        LoopClashes x = new LoopClashes(8, 8);
        due("of the empty list", x.references(), 0);
        for (int count = 1; count <= 6; count++) {
            x.refer(ZERO, ZERO, 1);
            due("after " + count, x.references(), count);
        }
        x.refer(ZERO, ZERO, 1);
        due("after a seventh", x.references(), 6);
        for (int left = 5; left >= 0; left--) {
            x.drop(left);
            due("after drop(" + left + ")", x.references(), left);
        }
        x.drop(0);
        due("after a drop of the empty list", x.references(), 0);
    }

    // Promises 6 and 16

    private static void placeAtTheTablesEnds() {
        sentence("Promise 6: \"as 1000 * row + column\"");
        int least = code(-4, -4, -20);
        int greatest = code(4, 4, 20);
        LoopClashes x = loops(8, 8, least, least, 0, least, greatest, 0, greatest, least, 0, greatest, greatest, 1);
        due("least row and column", x.place(0, 63), -76076);
        due("least row, greatest column", x.place(1, 63), -75924);
        due("greatest row, least column", x.place(2, 63), 75924);
        due("greatest row and column", x.place(3, 63), 76076);
        LoopClashes around = loops(1, 1, code(0, 0, -1), code(0, 0, 1), 0, ZERO, code(0, 0, -1), 0, ZERO, ZERO, 0);
        due("row -1, column 1", around.place(0, 0), -999);
        due("row 0, column -1", around.place(1, 0), -1);
        due("row 0, column 0", around.place(2, 0), 0);
    }

    private static void placeRefusesReference() {
        refuses("Promise 6, place in turn 0", (x, r) -> x.place(r, 0), BAD_REFERENCE);
        refuses("Promise 6, place in the last turn", (x, r) -> x.place(r, 3), BAD_REFERENCE);
        refuses("Promise 6, place in no turn", (x, r) -> x.place(r, 4), BAD_REFERENCE);
    }

    private static void placeRefusesTurn() {
        sentence("Promise 6: \"-200000000 if turn is not in 0 .. M * N - 1\"");
        for (int m = 1; m <= 8; m++) {
            for (int n = 1; n <= 8; n++) {
                LoopClashes x = loops(m, n, I, J, 0);
                int[] none = {-1, -n, MIN, m * n, m * n + 1, m * n + n, 64, 256, 65536, MAX};
                for (int turn : none) {
                    due("new (" + m + ", " + n + "), place(0, " + turn + ")", x.place(0, turn), BAD_TURN);
                }
                for (int turn = 0; turn < m * n; turn++) {
                    int want = 1000 * (turn / n) + turn % n;
                    due("new (" + m + ", " + n + "), place(0, " + turn + ")", x.place(0, turn), want);
                }
            }
        }
    }

    private static void footprintFromOneToAll() {
        sentence("Promise 16: \"How many different places are touched by the reference in all turns\"");
        for (int m = 1; m <= 8; m++) {
            for (int n = 1; n <= 8; n++) {
                String made = "new (" + m + ", " + n + "): ";
                LoopClashes x = loops(m, n, ZERO, ZERO, 1, I, ZERO, 0, ZERO, J, 1, J, I, 0,
                    code(4, 1, -20), code(0, 1, 20), 0, code(1, 1, 0), code(-1, -1, 0), 1);
                due(made + "one place", x.footprint(0), 1);
                due(made + "one in each outer turn", x.footprint(1), m);
                due(made + "one in each inner turn", x.footprint(2), n);
                due(made + "all apart", x.footprint(3), m * n);
                due(made + "all apart by row and column", x.footprint(4), m * n);
                due(made + "diagonals", x.footprint(5), m + n - 1);
            }
        }
    }

    private static void footprintRefuses() {
        refuses("Promise 16, footprint", LoopClashes::footprint, -1);
    }

    // Promises 7 to 12

    private static void refusesPairs(String of, OfPair question) {
        sentence(of + ": \"-1 if r or s is not good\"");
        for (int count = 0; count <= 6; count++) {
            for (int writes = 0; writes <= 1; writes++) {
                LoopClashes x = onOnePlace(2, 2, count, writes);
                for (int bad : wrongNumbers(count)) {
                    String told = " of " + count + ", bad " + bad;
                    due("both not good" + told, question.ask(x, bad, bad), -1);
                    for (int good = 0; good < count; good++) {
                        due("r not good" + told, question.ask(x, bad, good), -1);
                        due("s not good" + told, question.ask(x, good, bad), -1);
                    }
                }
                answersGoodPairs(x, count, question);
            }
        }
    }

    private static void answersGoodPairs(LoopClashes x, int count, OfPair question) {
        for (int r = 0; r < count; r++) {
            for (int s = 0; s < count; s++) {
                if (question.ask(x, r, s) == -1) {
                    report("(" + r + ", " + s + ") of " + count + " is refused");
                }
            }
        }
    }

    private static void saysNoneWithoutClash(String of, OfPair question) {
        sentence(of + ": \"-2 if there is none\"");
        LoopClashes readers = onOnePlace(8, 8, 2, 0);
        due("two that read", question.ask(readers, 0, 1), -2);
        due("one that reads, with itself", question.ask(readers, 0, 0), -2);
        LoopClashes single = onOnePlace(1, 1, 2, 1);
        due("a single turn, the later one first", question.ask(single, 1, 0), -2);
        due("a single turn, with itself", question.ask(single, 1, 1), -2);
        due("a single turn, the earlier one first", question.ask(single, 0, 1), 0);
        LoopClashes apart = loops(8, 8, I, J, 1, I, code(0, 1, 8), 1);
        due("no place in common", question.ask(apart, 0, 1), -2);
        due("no place in common, the later one first", question.ask(apart, 1, 0), -2);
        due("every place once", question.ask(apart, 0, 0), -2);
        LoopClashes ahead = loops(8, 8, I, J, 1, code(1, 0, 1), J, 0);
        due("all of them before it", question.ask(ahead, 0, 1), -2);
        LoopClashes same = loops(8, 8, I, J, 1, I, J, 1);
        due("only the same turn, the later one first", question.ask(same, 1, 0), -2);
    }

    private static void clashesWithItself() {
        sentence("Promise 7: \"r and s may be the same\"");
        for (int turns = 1; turns <= 8; turns++) {
            int pairs = turns * (turns - 1) / 2;
            LoopClashes inner = onOnePlace(1, turns, 6, 1);
            LoopClashes outer = onOnePlace(turns, 1, 6, 1);
            for (int r = 0; r < 6; r++) {
                due(turns + " inner turns, clashes(" + r + ", " + r + ")", inner.clashes(r, r), pairs);
                due(turns + " outer turns, clashes(" + r + ", " + r + ")", outer.clashes(r, r), pairs);
            }
        }
    }

    private static void clashesFromNoneToTheMost() {
        sentence("Promise 7: \"How many clashes of r with s there are\"");
        LoopClashes most = onOnePlace(8, 8, 6, 1);
        due("all turns, clashes(0, 5)", most.clashes(0, 5), 2080);
        due("all turns, clashes(5, 0)", most.clashes(5, 0), 2016);
        due("all turns, clashes(5, 5)", most.clashes(5, 5), 2016);
        LoopClashes readers = onOnePlace(8, 8, 6, 0);
        due("none, clashes(0, 5)", readers.clashes(0, 5), 0);
        everyDifference((x, m, n, down, across) -> {
            int alike = (m - down) * (n - (across < 0 ? -across : across));
            boolean later = readsLater(down, across);
            String made = named(m, n, down, across);
            due(made + "clashes(0, 1)", x.clashes(0, 1), later ? alike : 0);
            due(made + "clashes(1, 0)", x.clashes(1, 0), later ? 0 : alike);
        });
    }

    private static void directionsFromNoneToTheMost() {
        sentence("Promise 8: \"The set, as the sum of 2^direction\"");
        LoopClashes most = onOnePlace(8, 8, 2, 1);
        due("every direction there can be", most.directions(0, 1), 59);
        due("without the same turn", most.directions(1, 0), 58);
        due("none", onOnePlace(8, 8, 2, 0).directions(0, 1), 0);
        due("a single turn", onOnePlace(1, 1, 2, 1).directions(0, 1), 1);
        due("a single turn, the later one first", onOnePlace(1, 1, 2, 1).directions(1, 0), 0);
        due("a single outer turn", onOnePlace(1, 8, 2, 1).directions(0, 1), 3);
        due("a single inner turn", onOnePlace(8, 1, 2, 1).directions(0, 1), 9);
    }

    private static void leastSpan() {
        sentence("Promise 9: \"The least span of a clash of r with s\"");
        LoopClashes x = onOnePlace(8, 8, 2, 1);
        due("the same turn", x.nearest(0, 1), 0);
        due("the next turn", x.nearest(1, 0), 1);
        due("the next turn, with itself", x.nearest(0, 0), 1);
        LoopClashes far = loops(8, 8, I, J, 1, code(1, 0, -7), code(0, 1, -7), 0);
        due("only from the first turn to the last", far.nearest(0, 1), 63);
        // The clashes are (1, 4), (3, 5), (5, 6) and (7, 7).
        LoopClashes shrinking = loops(8, 1, I, ZERO, 1, code(2, 0, -7), ZERO, 0);
        due("the least is not the first one's", shrinking.nearest(0, 1), 0);
    }

    private static void greatestSpan() {
        sentence("Promise 10: \"The greatest span of a clash of r with s\"");
        LoopClashes x = onOnePlace(8, 8, 2, 1);
        due("from the first turn to the last", x.farthest(0, 1), 63);
        due("and the later one first", x.farthest(1, 0), 63);
        due("and with itself", x.farthest(0, 0), 63);
        LoopClashes same = loops(8, 8, I, J, 1, I, J, 0);
        due("only the same turn", same.farthest(0, 1), 0);
        // The clashes are (0, 0), (1, 2), (2, 4) and (3, 6).
        LoopClashes growing = loops(8, 1, code(2, 0, 0), ZERO, 1, I, ZERO, 0);
        due("the greatest is not the first one's", growing.farthest(0, 1), 3);
    }

    private static void leastFirstTurn() {
        sentence("Promise 11: \"The least number of a turn t of a clash (t, u)\"");
        for (int turn = 0; turn < 64; turn++) {
            int row = code(0, 0, turn / 8);
            int column = code(0, 0, turn % 8);
            LoopClashes x = loops(8, 8, I, J, 1, row, column, 0);
            due("written in turn " + turn + " alone", x.first(0, 1), turn);
            due("read in every turn before " + turn, x.first(1, 0), turn == 0 ? -2 : 0);
        }
        everyDifference((x, m, n, down, across) -> {
            boolean later = readsLater(down, across);
            String made = named(m, n, down, across);
            due(made + "first(0, 1)", x.first(0, 1), !later ? -2 : across < 0 ? -across : 0);
            due(made + "first(1, 0)", x.first(1, 0), later ? -2 : 0);
        });
    }

    private static void uniformWithoutClash() {
        sentence("Promise 12: \"(1 if there is none)\"");
        due("two that read", onOnePlace(8, 8, 2, 0).uniform(0, 1), 1);
        due("a single turn, with itself", onOnePlace(1, 1, 1, 1).uniform(0, 0), 1);
        due("a single turn, the later one first", onOnePlace(1, 1, 2, 1).uniform(1, 0), 1);
        LoopClashes apart = loops(8, 8, I, J, 1, I, code(0, 1, 8), 1);
        due("no place in common", apart.uniform(0, 1), 1);
        due("every place once", apart.uniform(0, 0), 1);
    }

    private static void uniformUnlessADifferenceDiffers() {
        sentence("Promise 12: \"1 if all clashes .. have the same differences .., otherwise 0\"");
        everyDifference((x, m, n, down, across) -> {
            due(named(m, n, down, across) + "uniform(0, 1)", x.uniform(0, 1), 1);
            due(named(m, n, down, across) + "uniform(1, 0)", x.uniform(1, 0), 1);
        });
        due("a single clash", onOnePlace(1, 1, 2, 1).uniform(0, 1), 1);
        due("a single clash with itself, inner", onOnePlace(1, 2, 1, 1).uniform(0, 0), 1);
        due("a single clash with itself, outer", onOnePlace(2, 1, 1, 1).uniform(0, 0), 1);
        due("inner differences 1 and 2", onOnePlace(1, 3, 1, 1).uniform(0, 0), 0);
        due("outer differences 1 and 2", onOnePlace(3, 1, 1, 1).uniform(0, 0), 0);
        due("inner differences 0 and 1", onOnePlace(1, 2, 2, 1).uniform(0, 1), 0);
        due("outer differences 0 and 1", onOnePlace(2, 1, 2, 1).uniform(0, 1), 0);
        // The place 2 * i + j, read as 2 * i + j - 1: the spans are all 1, but (0, 1) meets (1, 0).
        LoopClashes sameSpan = loops(2, 2, code(2, 1, 0), ZERO, 1, code(2, 1, -1), ZERO, 0);
        due("the same span, other differences", sameSpan.uniform(0, 1), 0);
        // The clashes are (1, 1), (2, 2) and (2, 3).
        LoopClashes lastOne = loops(2, 2, code(2, 1, 0), ZERO, 1, code(1, 0, 1), ZERO, 0);
        due("only the last one differs", lastOne.uniform(0, 1), 0);
    }

    // Promises 13 to 15 and 17

    private static void outerFreeUnlessOuterTurnsDiffer() {
        sentence("Promise 13: \"no clash of any references has different outer turns\"");
        everyDifference((x, m, n, down, across) ->
            due(named(m, n, down, across) + "outerFree()", x.outerFree(), down == 0 ? 1 : 0));
        due("no references", new LoopClashes(8, 8).outerFree(), 1);
        due("six that read", onOnePlace(8, 8, 6, 0).outerFree(), 1);
        due("six that write", onOnePlace(8, 8, 6, 1).outerFree(), 0);
        due("a single outer turn", onOnePlace(1, 8, 6, 1).outerFree(), 1);
        due("a single inner turn", onOnePlace(8, 1, 6, 1).outerFree(), 0);
        due("two outer turns, a single clash", onOnePlace(2, 1, 1, 1).outerFree(), 0);
        due("a single turn", onOnePlace(1, 1, 6, 1).outerFree(), 1);
    }

    private static void innerFreeUnlessOnlyInnerTurnsDiffer() {
        sentence("Promise 14: \"no clash has the same outer turn and different inner turns\"");
        everyDifference((x, m, n, down, across) ->
            due(named(m, n, down, across) + "innerFree()", x.innerFree(), down == 0 && across != 0 ? 0 : 1));
        due("no references", new LoopClashes(8, 8).innerFree(), 1);
        due("six that read", onOnePlace(8, 8, 6, 0).innerFree(), 1);
        due("six that write", onOnePlace(8, 8, 6, 1).innerFree(), 0);
        due("a single inner turn", onOnePlace(8, 1, 6, 1).innerFree(), 1);
        due("a single outer turn", onOnePlace(1, 8, 6, 1).innerFree(), 0);
        due("two inner turns, a single clash", onOnePlace(1, 2, 1, 1).innerFree(), 0);
        due("a single turn", onOnePlace(1, 1, 6, 1).innerFree(), 1);
    }

    private static void exchangeableUnlessTheyCross() {
        sentence("Promise 15: \"no clash has the outer turn less and the inner turn greater in t than in u\"");
        everyDifference((x, m, n, down, across) ->
            due(named(m, n, down, across) + "exchangeable()", x.exchangeable(), down > 0 && across < 0 ? 0 : 1));
        due("no references", new LoopClashes(8, 8).exchangeable(), 1);
        due("six that read", onOnePlace(8, 8, 6, 0).exchangeable(), 1);
        due("six that write", onOnePlace(8, 8, 6, 1).exchangeable(), 0);
        due("a single inner turn", onOnePlace(8, 1, 6, 1).exchangeable(), 1);
        due("a single outer turn", onOnePlace(1, 8, 6, 1).exchangeable(), 1);
        due("two turns of each", onOnePlace(2, 2, 1, 1).exchangeable(), 0);
        due("a single turn", onOnePlace(1, 1, 6, 1).exchangeable(), 1);
    }

    /** A writer with a reader, wherever they stand among six, and a writer with itself. */
    private static void everyPairOfReferencesCounts() {
        sentence("Promises 13 and 17: \"any references\"");
        for (int writer = 0; writer < 6; writer++) {
            due("alone, number " + writer + ", outerFree()", sixApart(writer, writer).outerFree(), 0);
            due("alone, number " + writer + ", innerFree()", sixApart(writer, writer).innerFree(), 0);
            due("alone, number " + writer + ", exchangeable()", sixApart(writer, writer).exchangeable(), 0);
            due("alone, number " + writer + ", depth()", sixApart(writer, writer).depth(), 9);
            for (int reader = 0; reader < 6; reader++) {
                if (reader != writer) {
                    seesPair(writer, reader);
                }
            }
        }
    }

    /** One writes (i, j) and another reads (0, 1), or a single one writes (0, 0); the others read elsewhere. */
    private static LoopClashes sixApart(int writer, int reader) {
        LoopClashes x = new LoopClashes(3, 3);
        for (int k = 0; k < 6; k++) {
            if (k == writer && k == reader) {
                x.refer(ZERO, ZERO, 1);
            } else if (k == writer) {
                x.refer(I, J, 1);
            } else if (k == reader) {
                x.refer(ZERO, code(0, 0, 1), 0);
            } else {
                x.refer(code(0, 0, 20), ZERO, 0);
            }
        }
        return x;
    }

    private static void seesPair(int writer, int reader) {
        String of = "writer " + writer + ", reader " + reader + ", ";
        due(of + "outerFree()", sixApart(writer, reader).outerFree(), 0);
        due(of + "innerFree()", sixApart(writer, reader).innerFree(), 0);
        due(of + "exchangeable()", sixApart(writer, reader).exchangeable(), 0);
        // Turn 0 reads what turn 1 writes, and all later turns read that.
        due(of + "depth()", sixApart(writer, reader).depth(), 3);
    }

    private static void depthFromOneToAll() {
        sentence("Promise 17: \"The least number of steps that all turns take\"");
        due("no references, a single turn", new LoopClashes(1, 1).depth(), 1);
        due("no references, all turns", new LoopClashes(8, 8).depth(), 1);
        due("six that read", onOnePlace(8, 8, 6, 0).depth(), 1);
        due("a single turn", onOnePlace(1, 1, 6, 1).depth(), 1);
        due("only the same turn", loops(8, 8, I, J, 1, I, J, 1, I, J, 1).depth(), 1);
        for (int m = 1; m <= 8; m++) {
            for (int n = 1; n <= 8; n++) {
                String made = "new (" + m + ", " + n + "): ";
                due(made + "one after another", onOnePlace(m, n, 1, 1).depth(), m * n);
                due(made + "outer turns at once", loops(m, n, I, ZERO, 1).depth(), n);
                due(made + "inner turns at once", loops(m, n, J, ZERO, 1).depth(), m);
            }
        }
    }

    private static void depthOfEveryDifference() {
        sentence("Promise 17: \"every turn u runs as soon as all turns t < u .. have run\"");
        everyDifference((x, m, n, down, across) -> {
            int outerJumps = down == 0 ? 64 : (m - 1) / down;
            int innerJumps = across == 0 ? 64 : (n - 1) / (across < 0 ? -across : across);
            int jumps = down == 0 && across == 0 ? 0 : Math.min(outerJumps, innerJumps);
            due(named(m, n, down, across) + "depth()", x.depth(), jumps + 1);
        });
    }

    private static void depthWaitsForAllTurns() {
        sentence("Promise 17: \"as soon as all turns t < u of clashes (t, u) of any references have run\"");
        int up = code(1, 0, -1);
        int left = code(0, 1, -1);
        for (int m = 1; m <= 8; m++) {
            for (int n = 1; n <= 8; n++) {
                LoopClashes wave = loops(m, n, I, J, 1, up, J, 0, I, left, 0);
                due("new (" + m + ", " + n + "): a wave, depth()", wave.depth(), m + n - 1);
            }
        }
        // Every turn waits for the one before it, and for turn 0.
        LoopClashes lastIsLatest = loops(1, 4, J, ZERO, 1, left, ZERO, 0, ZERO, ZERO, 0);
        due("the last turn is the latest to run", lastIsLatest.depth(), 4);
        // Turn 1 waits for turn 0; turn 2 for none; turn 3 for the turns 1 and 2.
        LoopClashes lastIsEarly = loops(1, 4, J, ZERO, 1, code(0, 2, -2), ZERO, 0, code(0, 2, -5), ZERO, 0,
            code(0, 3, -7), ZERO, 0);
        due("the last turn is not the latest to run", lastIsEarly.depth(), 3);
        LoopClashes again = onOnePlace(8, 8, 1, 1);
        again.depth();
        again.mode(0, 0);
        due("nothing is left of an earlier question", again.depth(), 1);
    }
}
