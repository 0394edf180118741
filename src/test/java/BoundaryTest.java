import java.util.ArrayList;
import java.util.LinkedHashMap;
import java.util.List;
import java.util.Map;
import java.util.function.Supplier;
import java.util.function.ToIntFunction;

// One test for each sentence of the document that names a boundary case, each on objects of its own.
// An argument runs only the tests whose names hold it: java BoundaryTest "push:"
public final class BoundaryTest {
    private static final int[] FAR_OUT = {
        127, 128, 255, 256, 257, 32768, 65535, 65536, 65537, 1 << 30, Integer.MAX_VALUE - 1, Integer.MAX_VALUE,
        -127, -128, -129, -255, -256, -257, -32768, -65536, -65537, Integer.MIN_VALUE + 1, Integer.MIN_VALUE,
    };

    private static final Map<String, Runnable> TESTS = new LinkedHashMap<>();
    private static final Map<String, Supplier<CornerDesk>> STATES = new LinkedHashMap<>();
    private static int wrong = 0;

    // ---- what the tests are written with

    private static void due(String call, Object got, Object want) {
        if (!got.equals(want)) {
            wrong++;
            System.out.println("  " + call + " answered " + got + ", due is " + want);
        }
    }

    private static void duePoint(String when, CornerDesk desk, int... want) {
        for (int which = 0; which < 3; which++) {
            due(when + ": numerator(" + which + ")", desk.numerator(which), want[2 * which]);
            due(when + ": denominator(" + which + ")", desk.denominator(which), want[2 * which + 1]);
        }
    }

    private static void dueBest(CornerDesk desk, int p, int q, int... want) {
        String call = "best(" + p + ", " + q + ")";
        due(call, desk.best(p, q), 1);
        duePoint(call, desk, want);
    }

    private static void dueNothingRemembered(String when, CornerDesk desk) {
        duePoint(when, desk, 0, 0, 0, 0, 0, 0);
        due(when + ": test(1, 0, 99)", desk.test(1, 0, 99), -1);
    }

    private static CornerDesk deskWith(int... conditions) {
        CornerDesk desk = new CornerDesk();
        for (int at = 0; at < conditions.length; at += 3) {
            due("add of a row", desk.add(conditions[at], conditions[at + 1], conditions[at + 2]), at / 3 + 1);
        }
        return desk;
    }

    private static CornerDesk deskWithConditions(int number) {
        CornerDesk desk = new CornerDesk();
        for (int held = 1; held <= number; held++) {
            due("add of condition " + held, desk.add(1, 1, held), held);
        }
        return desk;
    }

    private static CornerDesk deskWithLevels(int number) {
        CornerDesk desk = new CornerDesk();
        for (int levels = 2; levels <= number; levels++) {
            due("push of level " + levels, desk.push(), levels);
        }
        return desk;
    }

    private static void tellRegion(CornerDesk desk, List<Integer> story) {
        story.add(desk.possible());
        story.add(desk.spare());
        int[][] aims = {{2, 1}, {-1, 2}, {-2, -1}, {1, -2}};
        for (int[] aim : aims) {
            story.add(desk.best(aim[0], aim[1]));
            tellRemembered(desk, story);
        }
    }

    private static void tellRemembered(CornerDesk desk, List<Integer> story) {
        for (int which = 0; which < 3; which++) {
            story.add(desk.numerator(which));
            story.add(desk.denominator(which));
        }
        story.add(desk.test(1, 1, 3));
    }

    // What the calls after this one answer: what is remembered, the row, the levels and how much room
    // is left. It takes at most 340 calls, so that 512 are enough for an object and its story.
    private static List<Integer> story(CornerDesk desk) {
        List<Integer> story = new ArrayList<>();
        tellRemembered(desk, story);
        for (int time = 0; time < 8; time++) {
            story.add(desk.push());
        }
        tellRegion(desk, story);
        for (int time = 0; time < 8; time++) {
            story.add(desk.pop());
            tellRegion(desk, story);
        }
        for (int time = 0; time < 11; time++) {
            story.add(desk.add(1, 1, time));
        }
        return story;
    }

    // A refused call answers as due, and the object goes on like one on which it was not made.
    private static void refusedOn(
            Supplier<CornerDesk> made, String call, int answer, ToIntFunction<CornerDesk> refused) {
        CornerDesk desk = made.get();
        int got = refused.applyAsInt(desk);
        due(call, got, answer);
        // After a call that wasn't refused, huge numbers may lie in the row: the story could take hours.
        if (got == answer) {
            due("what follows " + call, story(desk), story(made.get()));
        }
    }

    private static void refusedInEveryState(String call, int answer, ToIntFunction<CornerDesk> refused) {
        STATES.forEach((name, made) -> refusedOn(made, name + ": " + call, answer, refused));
    }

    // The first numbers outside -limit to limit on both ends, and some that lie far outside.
    private static List<Integer> outside(int limit) {
        List<Integer> numbers = new ArrayList<>(List.of(limit + 1, -limit - 1, limit + 2, -limit - 2));
        for (int far : FAR_OUT) {
            numbers.add(far);
        }
        return numbers;
    }

    private static CornerDesk ofThreeLevels() {
        CornerDesk desk = deskWith(2, 3, 12);
        desk.push();
        desk.add(3, 1, 9);
        desk.push();
        desk.add(1, 1, 9);
        desk.best(1, 1);
        return desk;
    }

    private static CornerDesk ofFullRowAndLevels() {
        CornerDesk desk = deskWithConditions(3);
        for (int levels = 2; levels <= 8; levels++) {
            desk.push();
            desk.add(1, -levels, 20 - levels);
        }
        desk.best(-1, 3);
        return desk;
    }

    private static CornerDesk withoutPoint() {
        CornerDesk desk = deskWith(1, 0, 7);
        desk.best(3, 1);
        desk.push();
        desk.add(0, -1, -51);
        return desk;
    }

    private static CornerDesk thatForgot() {
        CornerDesk desk = withoutPoint();
        desk.best(3, 1);
        return desk;
    }

    private static void nameStates() {
        STATES.put("new", CornerDesk::new);
        STATES.put("three levels", BoundaryTest::ofThreeLevels);
        STATES.put("full row, full levels", BoundaryTest::ofFullRowAndLevels);
        STATES.put("no point, one remembered", BoundaryTest::withoutPoint);
        STATES.put("no point, none remembered", BoundaryTest::thatForgot);
    }

    // ---- "What it is"

    private static int callOfRound(CornerDesk desk, int step, int c) {
        return switch (step) {
            case 0 -> desk.push();
            case 1 -> desk.add(1, 0, c);
            case 2 -> desk.best(1, 0);
            case 3 -> desk.numerator(1);
            case 4 -> desk.denominator(1);
            case 5 -> desk.test(1, 0, c);
            case 6 -> desk.possible();
            case 7 -> desk.spare();
            default -> desk.pop();
        };
    }

    // Every kind of call is once the 512th one.
    private static void allOf512Calls() {
        for (int start = 0; start < 9; start++) {
            CornerDesk desk = new CornerDesk();
            for (int made = 0; made < start; made++) {
                due("call " + (made + 1) + ", possible", desk.possible(), 1);
            }
            for (int made = start; made < 512; made++) {
                int step = (made - start) % 9;
                int c = (made - start) / 9 - 28;
                int[] want = {2, 1, 1, c, 1, 1, 1, 0, 0};
                due("call " + (made + 1) + ", step " + step, callOfRound(desk, step, c), want[step]);
            }
        }
    }

    private static void callsAfterThe512thEnd() {
        STATES.forEach((name, made) -> {
            CornerDesk desk = made.get();
            for (int time = 0; time < 1000; time++) {
                callOfRound(desk, time % 9, time);
                desk.add(time, 1, 1);
                desk.push();
                desk.numerator(time - 500);
                desk.denominator(time - 500);
            }
        });
    }

    // ---- "Terms"

    private static void boxRight() {
        dueBest(new CornerDesk(), 1, 0, 50, 1, 50, 1, -50, 1);
        due("x >= 50 possible", deskWith(-1, 0, -50).possible(), 1);
        due("x >= 51 possible", deskWith(-1, 0, -51).possible(), 0);
        due("x >= 50.5 possible", deskWith(-1, -1, -99, 0, 2, 97).possible(), 0);
    }

    private static void boxLeft() {
        dueBest(new CornerDesk(), -1, 0, 50, 1, -50, 1, -50, 1);
        due("x <= -50 possible", deskWith(1, 0, -50).possible(), 1);
        due("x <= -51 possible", deskWith(1, 0, -51).possible(), 0);
        due("x <= -50.5 possible", deskWith(1, 1, -99, 0, -2, 97).possible(), 0);
    }

    private static void boxTop() {
        dueBest(new CornerDesk(), 0, 1, 50, 1, -50, 1, 50, 1);
        due("y >= 50 possible", deskWith(0, -1, -50).possible(), 1);
        due("y >= 51 possible", deskWith(0, -1, -51).possible(), 0);
        due("y >= 50.5 possible", deskWith(-1, -1, -99, 2, 0, 97).possible(), 0);
    }

    private static void boxBottom() {
        dueBest(new CornerDesk(), 0, -1, 50, 1, -50, 1, -50, 1);
        due("y <= -50 possible", deskWith(0, 1, -50).possible(), 1);
        due("y <= -51 possible", deskWith(0, 1, -51).possible(), 0);
        due("y <= -50.5 possible", deskWith(1, 1, -99, -2, 0, 97).possible(), 0);
    }

    private static void boxAlways() {
        CornerDesk full = new CornerDesk();
        for (int held = 1; held <= 10; held++) {
            due("add", full.add(1, 0, 99), held);
        }
        dueBest(full, 9, 9, 900, 1, 50, 1, 50, 1);
        dueBest(full, -9, -9, 900, 1, -50, 1, -50, 1);
        CornerDesk popped = new CornerDesk();
        popped.push();
        popped.add(1, 1, 0);
        due("pop", popped.pop(), 0);
        due("pop of the only level", popped.pop(), -1);
        dueBest(popped, 9, -9, 900, 1, 50, 1, -50, 1);
        dueBest(popped, -9, 9, 900, 1, -50, 1, 50, 1);
    }

    private static void equalityMeets() {
        due("x = 3 possible", deskWith(1, 0, 3, -1, 0, -3).possible(), 1);
        due("x <= 3, x >= 4 possible", deskWith(1, 0, 3, -1, 0, -4).possible(), 0);
        CornerDesk point = deskWith(1, 0, 3, -1, 0, -3, 0, 1, 4, 0, -1, -4);
        due("a point from four sides possible", point.possible(), 1);
        dueBest(point, 1, 1, 7, 1, 3, 1, 4, 1);
        due("test(1, 1, 7)", point.test(1, 1, 7), 1);
    }

    private static void pointsNeedNotBeWhole() {
        CornerDesk third = deskWith(3, 0, 1, -3, 0, -1, 0, 3, 2, 0, -3, -2);
        due("(1/3, 2/3) possible", third.possible(), 1);
        dueBest(third, 1, 1, 1, 1, 1, 3, 2, 3);
        CornerDesk ninth = deskWith(9, 0, -1, -9, 0, 1);
        due("x = -1/9 possible", ninth.possible(), 1);
        dueBest(ninth, 9, 1, 49, 1, -1, 9, 50, 1);
    }

    private static void greatestValueGoesFirst() {
        // (-50, 0) has less x, but (0, 1/9) has more value.
        CornerDesk desk = deskWith(1, 0, 0, 0, 1, 1, -1, 9, 1);
        dueBest(desk, 0, 9, 1, 1, 0, 1, 1, 9);
        dueBest(desk, 0, -1, 50, 1, -50, 1, -50, 1);
    }

    private static void tieGoesToLeastX() {
        dueBest(new CornerDesk(), 0, 9, 450, 1, -50, 1, 50, 1);
        dueBest(deskWith(0, 2, 1, -3, 0, 1), 0, 1, 1, 2, -1, 3, 1, 2);
        // On a falling side the least x has the greatest y, on a rising one the least.
        dueBest(deskWith(1, 1, 0, -1, 0, 4), 2, 2, 0, 1, -4, 1, 4, 1);
        dueBest(deskWith(-1, 1, 0, -1, 0, 4), -3, 3, 0, 1, -4, 1, -4, 1);
    }

    private static void tieOfXGoesToLeastY() {
        dueBest(new CornerDesk(), 9, 0, 450, 1, 50, 1, -50, 1);
        dueBest(deskWith(2, 0, 1, 0, -3, 1), 1, 0, 1, 2, 1, 2, -1, 3);
        dueBest(deskWith(-2, 0, 1, 0, -3, 1), -1, 0, 1, 2, -1, 2, -1, 3);
    }

    private static void allTieUnderAimZero() {
        dueBest(new CornerDesk(), 0, 0, 0, 1, -50, 1, -50, 1);
        dueBest(deskWith(-1, 0, 3, -1, -1, 2), 0, 0, 0, 1, -3, 1, 1, 1);
        dueBest(deskWith(-1, -1, 0), 0, 0, 0, 1, -50, 1, 50, 1);
    }

    private static void thereIsABestOneAtASinglePoint() {
        for (int p = -9; p <= 9; p++) {
            CornerDesk desk = deskWith(2, 0, 1, -2, 0, -1, 0, 3, 1, 0, -3, -1);
            for (int q = -9; q <= 9; q++) {
                int sixths = 3 * p + 2 * q;
                int divisor = commonDivisor(sixths, 6);
                dueBest(desk, p, q, sixths / divisor, 6 / divisor, 1, 2, 1, 3);
            }
        }
    }

    private static void thereIsABestOneOnALine() {
        for (int p = -9; p <= 9; p++) {
            CornerDesk desk = deskWith(1, -1, 0, -1, 1, 0);
            for (int q = -9; q <= 9; q++) {
                int end = p + q > 0 ? 50 : -50;
                dueBest(desk, p, q, end * (p + q), 1, end, 1, end, 1);
            }
        }
    }

    private static int commonDivisor(int one, int two) {
        return two == 0 ? Math.abs(one) : commonDivisor(two, one % two);
    }

    private static void fractionsHaveNoCommonDivisor() {
        int[][] rows = {
            {9, 8, 99, -9, 9, -98}, {9, 9, -82, -8, 9, 1}, {6, 4, 2, -4, 8, 12}, {9, 9, 96, 9, -9, 90},
            {8, 0, 6, 0, 9, 6},
        };
        for (int[] row : rows) {
            for (int p = -9; p <= 9; p++) {
                CornerDesk desk = deskWith(row);
                for (int q = -9; q <= 9; q++) {
                    due("best(" + p + ", " + q + ")", desk.best(p, q), 1);
                    for (int which = 0; which < 3; which++) {
                        int divisor = commonDivisor(desk.numerator(which), desk.denominator(which));
                        due("common divisor of " + which + " for " + p + ", " + q, divisor, 1);
                    }
                }
            }
        }
        dueBest(deskWith(8, 0, 6, 0, 9, 6), 4, 3, 5, 1, 3, 4, 2, 3);
    }

    private static void denominatorIsAboveZero() {
        dueBest(deskWith(9, 0, -6, 0, 8, -6), 1, 1, -17, 12, -2, 3, -3, 4);
        dueBest(deskWith(0, 8, -6, 9, 0, -6), 1, 1, -17, 12, -2, 3, -3, 4);
        dueBest(deskWith(-9, 0, -6, 0, -8, -6), -1, -1, -17, 12, 2, 3, 3, 4);
    }

    private static void zeroIsWrittenOverOne() {
        dueBest(deskWith(9, 0, 0, 0, 7, 0), 5, 5, 0, 1, 0, 1, 0, 1);
        dueBest(deskWith(9, 9, 0, -9, 9, 0), 0, 5, 0, 1, 0, 1, 0, 1);
    }

    private static void wholeNumbersAreWrittenOverOne() {
        dueBest(deskWith(9, 0, 81, 0, 9, -99), 1, 1, -2, 1, 9, 1, -11, 1);
    }

    private static void greatestNumbersOfFractions() {
        dueBest(deskWith(9, 8, 99, -9, 9, -98), 1, 9, 1756, 153, 1675, 153, 1, 17);
        dueBest(deskWith(-9, -8, 99, 9, -9, -98), -1, -9, 1756, 153, -1675, 153, -1, 17);
        dueBest(deskWith(1, 0, -50, 0, 1, -50), 9, 9, -900, 1, -50, 1, -50, 1);
    }

    private static void greatestNumbersBesideEachOther() {
        CornerDesk slantedSquare = deskWith(9, 8, 99, -8, 9, 99, -9, -8, 99, 8, -9, 99);
        dueBest(slantedSquare, 9, 0, 15147, 145, 1683, 145, -99, 145);
        dueBest(slantedSquare, 0, 9, 15147, 145, 99, 145, 1683, 145);
        dueBest(slantedSquare, -9, 0, 15147, 145, -1683, 145, 99, 145);
        dueBest(slantedSquare, 0, -9, 15147, 145, -99, 145, -1683, 145);
        dueBest(slantedSquare, 9, 9, 16038, 145, 99, 145, 1683, 145);
    }

    // ---- "Promise 1: A new object"

    private static void newHasNoCondition() {
        due("spare", new CornerDesk().spare(), 0);
        due("possible", new CornerDesk().possible(), 1);
        due("first add", new CornerDesk().add(1, 0, -50), 1);
        CornerDesk desk = new CornerDesk();
        desk.push();
        due("pop of the second level", desk.pop(), 0);
    }

    private static void newHasOneLevel() {
        due("pop", new CornerDesk().pop(), -1);
        due("push", new CornerDesk().push(), 2);
    }

    private static void newRemembersNothing() {
        dueNothingRemembered("new", new CornerDesk());
        CornerDesk other = new CornerDesk();
        other.best(1, 1);
        dueNothingRemembered("new beside one that remembers", new CornerDesk());
    }

    // ---- "Promise 2: add"

    private static boolean isInside(int number, int limit) {
        return number >= -limit && number <= limit;
    }

    private static void addTakesWhatIsInRange() {
        for (int a = -11; a <= 11; a++) {
            for (int b = -11; b <= 11; b++) {
                for (int c = -101; c <= 101; c++) {
                    boolean taken = isInside(a, 9) && isInside(b, 9) && isInside(c, 99) && (a != 0 || b != 0);
                    due("add(" + a + ", " + b + ", " + c + ")", new CornerDesk().add(a, b, c), taken ? 1 : -1);
                }
            }
        }
    }

    // The last values that are taken are held as they were given.
    private static void addHoldsTheLastValues() {
        dueBest(deskWith(9, 0, 99), 1, 0, 11, 1, 11, 1, -50, 1);
        dueBest(deskWith(-9, 0, 99), -1, 0, 11, 1, -11, 1, -50, 1);
        dueBest(deskWith(0, 9, -99), 0, 1, -11, 1, -50, 1, -11, 1);
        dueBest(deskWith(0, -9, -99), 0, -1, -11, 1, -50, 1, 11, 1);
        dueBest(deskWith(9, 9, 99, 9, -9, 99), 9, 0, 99, 1, 11, 1, 0, 1);
        dueBest(deskWith(-9, -9, -99, -9, 9, -99), -9, 0, -99, 1, 11, 1, 0, 1);
    }

    private static void addRefusesA() {
        for (int a : outside(9)) {
            refusedInEveryState("add(" + a + ", 1, -3)", -1, desk -> desk.add(a, 1, -3));
        }
    }

    private static void addRefusesB() {
        for (int b : outside(9)) {
            refusedInEveryState("add(1, " + b + ", -3)", -1, desk -> desk.add(1, b, -3));
        }
    }

    private static void addRefusesC() {
        for (int c : outside(99)) {
            refusedInEveryState("add(1, 1, " + c + ")", -1, desk -> desk.add(1, 1, c));
        }
    }

    private static void addRefusesBothZero() {
        int[] cs = {0, 1, -1, 99, -99, 100, Integer.MIN_VALUE, Integer.MAX_VALUE};
        for (int c : cs) {
            refusedInEveryState("add(0, 0, " + c + ")", -1, desk -> desk.add(0, 0, c));
        }
        due("a = 0 alone", new CornerDesk().add(0, 1, 0), 1);
        due("b = 0 alone", new CornerDesk().add(1, 0, 0), 1);
    }

    private static void addRefusesAnEleventh() {
        CornerDesk tenth = deskWithConditions(9);
        due("possible under nine", tenth.possible(), 1);
        due("the tenth", tenth.add(1, 0, -51), 10);
        due("possible under the tenth", tenth.possible(), 0);
        refusedOn(() -> deskWithConditions(10), "the eleventh", -1, desk -> desk.add(1, 0, -50));
        refusedOn(BoundaryTest::ofFullRowAndLevels, "the eleventh over levels", -1, desk -> desk.add(1, 0, -50));
    }

    private static void addHasRoomAgainAfterPop() {
        CornerDesk desk = deskWithConditions(8);
        desk.push();
        due("the ninth", desk.add(1, 0, 1), 9);
        due("the tenth", desk.add(1, 0, 2), 10);
        due("the eleventh", desk.add(1, 0, 3), -1);
        due("pop", desk.pop(), 8);
        due("the ninth again", desk.add(1, 0, -4), 9);
        due("the tenth again", desk.add(1, 0, -5), 10);
        due("the eleventh again", desk.add(1, 0, -6), -1);
        dueBest(desk, 1, 0, -5, 1, -5, 1, -50, 1);
    }

    private static void addGoesIntoTheNewestLevel() {
        CornerDesk desk = deskWith(1, 0, 3);
        desk.push();
        due("add", desk.add(1, 0, 2), 2);
        desk.push();
        due("add", desk.add(1, 0, 1), 3);
        due("pop", desk.pop(), 2);
        dueBest(desk, 1, 0, 2, 1, 2, 1, -50, 1);
        due("pop", desk.pop(), 1);
        dueBest(desk, 1, 0, 3, 1, 3, 1, -50, 1);
    }

    // ---- "Promise 3: push"

    private static void pushRefusesANinthLevel() {
        due("the eighth", deskWithLevels(7).push(), 8);
        refusedOn(() -> deskWithLevels(8), "the ninth", -1, CornerDesk::push);
        refusedOn(BoundaryTest::ofFullRowAndLevels, "the ninth over a full row", -1, CornerDesk::push);
        CornerDesk desk = deskWithLevels(8);
        due("add in the eighth level", desk.add(1, 0, 5), 1);
        due("the ninth after it", desk.push(), -1);
        due("add in the eighth level", desk.add(1, 0, 4), 2);
        due("pop takes both away", desk.pop(), 0);
    }

    private static void pushHasRoomAgainAfterPop() {
        CornerDesk desk = deskWithLevels(8);
        due("pop", desk.pop(), 0);
        due("push", desk.push(), 8);
        due("push", desk.push(), -1);
    }

    private static void pushOverAFullRow() {
        CornerDesk desk = deskWithConditions(10);
        due("push", desk.push(), 2);
        due("the eleventh in a new level", desk.add(1, 0, 0), -1);
        due("pop", desk.pop(), 10);
    }

    // ---- "Promise 4: pop"

    private static void popRefusesTheOnlyLevel() {
        refusedOn(CornerDesk::new, "pop on a new object", -1, CornerDesk::pop);
        refusedOn(() -> deskWith(1, 0, 3, 0, 1, 4), "pop of a level with conditions", -1, CornerDesk::pop);
        refusedOn(() -> deskWithConditions(10), "pop of a full level", -1, CornerDesk::pop);
        refusedOn(BoundaryTest::remembering, "pop beside a remembered point", -1, CornerDesk::pop);
        CornerDesk desk = deskWithLevels(2);
        due("pop of the second", desk.pop(), 0);
        due("pop of the first", desk.pop(), -1);
        due("push", desk.push(), 2);
    }

    private static void popTakesAnEmptyLevel() {
        CornerDesk desk = deskWith(1, 0, 3);
        desk.push();
        due("pop", desk.pop(), 1);
        dueBest(desk, 1, 0, 3, 1, 3, 1, -50, 1);
    }

    private static void popTakesAFullLevel() {
        CornerDesk desk = new CornerDesk();
        desk.push();
        for (int held = 1; held <= 10; held++) {
            due("add", desk.add(1, 0, -51), held);
        }
        due("pop", desk.pop(), 0);
        due("possible", desk.possible(), 1);
        due("spare", desk.spare(), 0);
        due("add", desk.add(1, 0, 0), 1);
    }

    private static void popTakesAllEightLevelsButOne() {
        CornerDesk desk = ofFullRowAndLevels();
        for (int levels = 7; levels >= 1; levels--) {
            due("pop to level " + levels, desk.pop(), levels + 2);
        }
        due("pop of the first", desk.pop(), -1);
        due("add", desk.add(1, 0, 0), 4);
    }

    // ---- "Promise 5: possible"

    // 7x + 8y is at most -68 - 1/153 under the first row, -75 under the second, -74 + 1/153 under the third.
    private static void possibleOnTheEdge() {
        due("just apart", deskWith(9, 9, -82, -8, 9, 1, -7, -8, 68).possible(), 0);
        due("touching", deskWith(9, 9, -90, -8, 9, -5, -7, -8, 75).possible(), 1);
        due("just meeting", deskWith(9, 9, -89, -8, 9, -2, -7, -8, 74).possible(), 1);
    }

    private static void possibleChangesNothing() {
        STATES.forEach((name, made) -> {
            int answer = name.startsWith("no point") ? 0 : 1;
            refusedOn(made, name + ": possible", answer, CornerDesk::possible);
        });
    }

    // ---- "Promise 6: best"

    private static void bestTakesWhatIsInRange() {
        for (int p = -11; p <= 11; p++) {
            for (int q = -11; q <= 11; q++) {
                int answer = isInside(p, 9) && isInside(q, 9) ? 1 : -1;
                CornerDesk desk = new CornerDesk();
                due("best(" + p + ", " + q + ")", desk.best(p, q), answer);
                int value = answer == 1 ? 50 * (Math.abs(p) + Math.abs(q)) : 0;
                due("value of best(" + p + ", " + q + ")", desk.numerator(0), value);
            }
        }
    }

    private static void bestRefusesP() {
        for (int p : outside(9)) {
            refusedInEveryState("best(" + p + ", -1)", -1, desk -> desk.best(p, -1));
        }
    }

    private static void bestRefusesQ() {
        for (int q : outside(9)) {
            refusedInEveryState("best(-1, " + q + ")", -1, desk -> desk.best(-1, q));
        }
    }

    private static void bestForgetsIfNoPointMeetsAll() {
        CornerDesk desk = deskWith(1, 0, 7);
        dueBest(desk, 3, 1, 71, 1, 7, 1, 50, 1);
        desk.push();
        desk.add(0, -1, -51);
        due("best without a point", desk.best(3, 1), 0);
        dueNothingRemembered("no point", desk);
        due("pop", desk.pop(), 1);
        dueNothingRemembered("no point, then pop", desk);
        dueBest(desk, 3, 1, 71, 1, 7, 1, 50, 1);
        CornerDesk never = deskWith(1, 0, -51);
        due("best without a point at first", never.best(0, 0), 0);
        due("best without a point again", never.best(9, -9), 0);
        dueNothingRemembered("never a point", never);
    }

    private static void bestKeepsTheRow() {
        CornerDesk desk = withoutPoint();
        due("best without a point", desk.best(3, 1), 0);
        due("possible", desk.possible(), 0);
        due("pop", desk.pop(), 1);
        due("pop of the first level", desk.pop(), -1);
        due("add", desk.add(1, 0, 6), 2);
    }

    private static void bestTakesTheNewPointInPlaceOfTheOld() {
        CornerDesk desk = new CornerDesk();
        dueBest(desk, 1, 1, 100, 1, 50, 1, 50, 1);
        desk.add(1, 1, 1);
        dueBest(desk, 1, 1, 1, 1, -49, 1, 50, 1);
        dueBest(desk, -1, -1, 100, 1, -50, 1, -50, 1);
    }

    // ---- "Promise 7: numerator" and "Promise 8: denominator"

    private static CornerDesk remembering() {
        CornerDesk desk = deskWith(2, 0, 1, 0, 3, 2);
        dueBest(desk, 3, 5, 29, 6, 1, 2, 2, 3);
        return desk;
    }

    private static List<Integer> outsideOfWhich() {
        List<Integer> numbers = new ArrayList<>(List.of(-1, -2, -3, 3, 4, 5));
        for (int far : FAR_OUT) {
            numbers.add(far);
        }
        return numbers;
    }

    private static void numeratorTakesWhich() {
        CornerDesk desk = remembering();
        due("numerator(0)", desk.numerator(0), 29);
        due("numerator(2)", desk.numerator(2), 2);
    }

    private static void numeratorRefusesWhich() {
        for (int which : outsideOfWhich()) {
            refusedInEveryState("numerator(" + which + ")", 0, desk -> desk.numerator(which));
            due("numerator(" + which + ")", remembering().numerator(which), 0);
        }
    }

    private static void numeratorWithNothingRemembered() {
        for (int which = -1; which <= 3; which++) {
            int asked = which;
            String call = "numerator(" + which + ")";
            refusedOn(CornerDesk::new, "new: " + call, 0, desk -> desk.numerator(asked));
            refusedOn(BoundaryTest::thatForgot, "forgot: " + call, 0, desk -> desk.numerator(asked));
        }
    }

    private static void denominatorTakesWhich() {
        CornerDesk desk = remembering();
        due("denominator(0)", desk.denominator(0), 6);
        due("denominator(2)", desk.denominator(2), 3);
    }

    private static void denominatorRefusesWhich() {
        for (int which : outsideOfWhich()) {
            refusedInEveryState("denominator(" + which + ")", 0, desk -> desk.denominator(which));
            due("denominator(" + which + ")", remembering().denominator(which), 0);
        }
    }

    private static void denominatorWithNothingRemembered() {
        for (int which = -1; which <= 3; which++) {
            int asked = which;
            String call = "denominator(" + which + ")";
            refusedOn(CornerDesk::new, "new: " + call, 0, desk -> desk.denominator(asked));
            refusedOn(BoundaryTest::thatForgot, "forgot: " + call, 0, desk -> desk.denominator(asked));
        }
    }

    // ---- "Promise 9: test"

    // The point is (1/3, -1/2), so six times a * x + b * y is the whole number 2a - 3b.
    private static void testTakesWhatIsInRange() {
        for (int a = -11; a <= 11; a++) {
            for (int b = -11; b <= 11; b++) {
                CornerDesk desk = deskWith(3, 0, 1, 0, 2, -1);
                desk.best(1, 1);
                for (int c = -101; c <= 101; c++) {
                    boolean taken = isInside(a, 9) && isInside(b, 9) && isInside(c, 99) && (a != 0 || b != 0);
                    int room = 6 * c - (2 * a - 3 * b);
                    int met = room == 0 ? 1 : room > 0 ? 2 : 0;
                    due("test(" + a + ", " + b + ", " + c + ")", desk.test(a, b, c), taken ? met : -1);
                }
            }
        }
    }

    private static void testOnTheEdge() {
        CornerDesk under = deskWith(9, 9, -82, -8, 9, 1);
        under.best(7, 8);
        due("7x + 8y is 1/153 below: test(7, 8, -68)", under.test(7, 8, -68), 2);
        due("test(7, 8, -69)", under.test(7, 8, -69), 0);
        CornerDesk on = deskWith(9, 9, -90, -8, 9, -5);
        on.best(7, 8);
        due("7x + 8y is equal: test(7, 8, -75)", on.test(7, 8, -75), 1);
        due("test(7, 8, -74)", on.test(7, 8, -74), 2);
        due("test(7, 8, -76)", on.test(7, 8, -76), 0);
        CornerDesk over = deskWith(9, 9, -89, -8, 9, -2);
        over.best(7, 8);
        due("7x + 8y is 1/153 above: test(7, 8, -74)", over.test(7, 8, -74), 0);
        due("test(7, 8, -73)", over.test(7, 8, -73), 2);
    }

    private static void testWithNothingRemembered() {
        refusedOn(CornerDesk::new, "new: test(1, 0, 99)", -1, desk -> desk.test(1, 0, 99));
        refusedOn(BoundaryTest::thatForgot, "forgot: test(1, 0, 99)", -1, desk -> desk.test(1, 0, 99));
        refusedOn(BoundaryTest::thatForgot, "forgot: test(1, 0, 7)", -1, desk -> desk.test(1, 0, 7));
        CornerDesk desk = deskWith(1, 0, 7);
        due("add alone remembers nothing", desk.test(1, 0, 7), -1);
        due("possible", desk.possible(), 1);
        due("possible alone remembers nothing", desk.test(1, 0, 7), -1);
    }

    private static void testRefusesA() {
        for (int a : outside(9)) {
            refusedInEveryState("test(" + a + ", 1, 3)", -1, desk -> desk.test(a, 1, 3));
        }
    }

    private static void testRefusesB() {
        for (int b : outside(9)) {
            refusedInEveryState("test(1, " + b + ", 3)", -1, desk -> desk.test(1, b, 3));
        }
    }

    private static void testRefusesC() {
        for (int c : outside(99)) {
            refusedInEveryState("test(1, 1, " + c + ")", -1, desk -> desk.test(1, 1, c));
        }
    }

    private static void testRefusesBothZero() {
        int[] cs = {0, 1, -1, 99, -99, 100, Integer.MIN_VALUE, Integer.MAX_VALUE};
        for (int c : cs) {
            refusedInEveryState("test(0, 0, " + c + ")", -1, desk -> desk.test(0, 0, c));
        }
    }

    // ---- "Promise 10: spare"

    private static void spareOfAnEmptyRow() {
        due("spare", new CornerDesk().spare(), 0);
        CornerDesk desk = deskWithLevels(2);
        desk.add(1, 0, 60);
        due("spare", desk.spare(), 1);
        desk.pop();
        due("spare after pop", desk.spare(), 0);
    }

    private static void spareOfAFullRow() {
        CornerDesk alike = new CornerDesk();
        CornerDesk cutting = new CornerDesk();
        int[][] sides = {
            {9, 0}, {-9, 0}, {0, 9}, {0, -9}, {7, 7}, {7, -7}, {-7, 7}, {-7, -7}, {8, 5}, {-8, -5},
        };
        for (int[] side : sides) {
            alike.add(2, 1, 3);
            cutting.add(side[0], side[1], 90);
        }
        due("ten alike", alike.spare(), 10);
        due("ten that all cut", cutting.spare(), 0);
    }

    private static void spareEachAlone() {
        due("the same twice", deskWith(1, 0, 5, 1, 0, 5).spare(), 2);
        due("the same, written otherwise", deskWith(1, 2, 3, 3, 6, 9).spare(), 2);
        due("one wider", deskWith(1, 0, 5, 1, 0, 6).spare(), 1);
        due("across levels", ofThreeLevels().spare(), 1);
    }

    private static void spareOnTheEdge() {
        due("just beyond", deskWith(9, 9, -82, -8, 9, 1, 7, 8, -68).spare(), 1);
        due("touching", deskWith(9, 9, -90, -8, 9, -5, 7, 8, -75).spare(), 1);
        due("just cutting", deskWith(9, 9, -89, -8, 9, -2, 7, 8, -74).spare(), 0);
    }

    private static void spareBesideTheBox() {
        due("x <= 50, the box's own", deskWith(1, 0, 50).spare(), 1);
        due("x >= -50, the box's own", deskWith(-1, 0, 50).spare(), 1);
        due("y <= 50, the box's own", deskWith(0, 1, 50).spare(), 1);
        due("y >= -50, the box's own", deskWith(0, -1, 50).spare(), 1);
        due("x + y <= 99 cuts a corner off", deskWith(1, 1, 99).spare(), 0);
        due("2x <= 99", deskWith(2, 0, 99).spare(), 0);
        due("-2x <= 99", deskWith(-2, 0, 99).spare(), 0);
        due("2y <= 99", deskWith(0, 2, 99).spare(), 0);
        due("-2y <= 99", deskWith(0, -2, 99).spare(), 0);
        due("the box's sides are not of the row", deskWith(1, 0, 1, -1, 0, 1, 0, 1, 1, 0, -1, 1).spare(), 0);
    }

    private static void spareOfSmallRegions() {
        due("a line from both sides", deskWith(1, -1, 0, -1, 1, 0).spare(), 0);
        due("a point from three sides", deskWith(1, 0, 0, 0, 1, 0, -1, -1, 0).spare(), 0);
        due("a point, and a line through it", deskWith(1, 0, 0, 0, 1, 0, -1, -1, 0, 1, -1, 0).spare(), 2);
        due("the box's corner", deskWith(-1, 0, -50, 0, -1, -50).spare(), 0);
        due("the box's corner twice", deskWith(-1, -1, -99, -1, 0, -50, 0, -1, -50).spare(), 1);
    }

    private static void spareIfNoPointMeetsAll() {
        due("one rules all out", deskWith(1, 0, -51).spare(), 0);
        due("one rules all out, one does not", deskWith(1, 0, -51, 0, 1, 0).spare(), 1);
        due("each of two rules all out", deskWith(1, 0, -51, 0, 1, -51).spare(), 2);
        due("a pair rules all out", deskWith(1, 0, 0, -1, 0, -1, 0, 1, 7).spare(), 1);
        due("three rule all out, by 1/153", deskWith(9, 9, -82, -8, 9, 1, -7, -8, 68).spare(), 0);
    }

    private static void spareChangesNothing() {
        Map<String, Integer> answers = Map.of("new", 0, "three levels", 1,
            "no point, one remembered", 1, "no point, none remembered", 1);
        answers.forEach((name, answer) ->
            refusedOn(STATES.get(name), name + ": spare", answer, CornerDesk::spare));
    }

    // ---- "Promise 11: Order and limits"

    private static void boxIsNotCounted() {
        due("the first add", new CornerDesk().add(1, 0, 50), 1);
        CornerDesk desk = deskWithLevels(3);
        due("pop of an empty level over an empty row", desk.pop(), 0);
        due("add of a side of the box", desk.add(1, 0, 50), 1);
        due("add of a side of the box", desk.add(0, -1, 50), 2);
        due("pop", desk.pop(), 0);
        due("the tenth has room", deskWithConditions(9).add(1, 0, 50), 10);
    }

    private static void addKeepsWhatIsRemembered() {
        CornerDesk desk = remembering();
        due("add that lets the point be", desk.add(1, 0, 40), 3);
        duePoint("after add", desk, 29, 6, 1, 2, 2, 3);
        due("add that rules the point out", desk.add(1, 0, -40), 4);
        duePoint("after add", desk, 29, 6, 1, 2, 2, 3);
        due("add that rules all out", desk.add(1, 0, -51), 5);
        duePoint("after add", desk, 29, 6, 1, 2, 2, 3);
        due("test of the remembered point", desk.test(2, 0, 1), 1);
    }

    private static void pushKeepsWhatIsRemembered() {
        CornerDesk desk = remembering();
        for (int levels = 2; levels <= 8; levels++) {
            due("push", desk.push(), levels);
            duePoint("after push", desk, 29, 6, 1, 2, 2, 3);
        }
        due("test of the remembered point", desk.test(0, 3, 2), 1);
    }

    private static void popKeepsWhatIsRemembered() {
        CornerDesk desk = deskWithLevels(3);
        desk.add(2, 0, 1);
        desk.add(0, 3, 2);
        dueBest(desk, 3, 5, 29, 6, 1, 2, 2, 3);
        due("pop of the point's own level", desk.pop(), 0);
        duePoint("after pop", desk, 29, 6, 1, 2, 2, 3);
        due("pop of an empty level", desk.pop(), 0);
        duePoint("after pop", desk, 29, 6, 1, 2, 2, 3);
        due("test of the remembered point", desk.test(2, 0, 1), 1);
    }

    private static void nothingComesBackByAddPushOrPop() {
        CornerDesk desk = thatForgot();
        due("push", desk.push(), 3);
        dueNothingRemembered("after push", desk);
        due("add", desk.add(1, 0, 1), 3);
        dueNothingRemembered("after add", desk);
        due("pop", desk.pop(), 2);
        due("pop", desk.pop(), 1);
        dueNothingRemembered("after pop", desk);
        due("push", desk.push(), 2);
        due("pop", desk.pop(), 1);
        dueNothingRemembered("after pop of an empty level", desk);
    }

    // ---- the tests by name, each with the words that it holds the class to

    private static void nameTestsOfTerms() {
        TESTS.put("what it is: used for at most 512 calls", BoundaryTest::allOf512Calls);
        TESTS.put("LANGUAGE 7: calls after the 512th end too", BoundaryTest::callsAfterThe512thEnd);
        TESTS.put("terms: x <= 50 always holds", BoundaryTest::boxRight);
        TESTS.put("terms: -x <= 50 always holds", BoundaryTest::boxLeft);
        TESTS.put("terms: y <= 50 always holds", BoundaryTest::boxTop);
        TESTS.put("terms: -y <= 50 always holds", BoundaryTest::boxBottom);
        TESTS.put("terms: the four hold beside a full and an emptied row", BoundaryTest::boxAlways);
        TESTS.put("terms: a * x + b * y <= c, also if equal", BoundaryTest::equalityMeets);
        TESTS.put("terms: x and y are any real numbers", BoundaryTest::pointsNeedNotBeWhole);
        TESTS.put("terms: the greatest p * x + q * y", BoundaryTest::greatestValueGoesFirst);
        TESTS.put("terms: of several the least x", BoundaryTest::tieGoesToLeastX);
        TESTS.put("terms: of these the least y", BoundaryTest::tieOfXGoesToLeastY);
        TESTS.put("terms: an aim of 0 and 0", BoundaryTest::allTieUnderAimZero);
        TESTS.put("terms: there is a best one of a single point", BoundaryTest::thereIsABestOneAtASinglePoint);
        TESTS.put("terms: there is a best one of a line's points", BoundaryTest::thereIsABestOneOnALine);
        TESTS.put("terms: no common divisor above 1", BoundaryTest::fractionsHaveNoCommonDivisor);
        TESTS.put("terms: the denominator is above 0", BoundaryTest::denominatorIsAboveZero);
        TESTS.put("terms: zero as a fraction", BoundaryTest::zeroIsWrittenOverOne);
        TESTS.put("terms: whole numbers as fractions", BoundaryTest::wholeNumbersAreWrittenOverOne);
        TESTS.put("terms: the greatest numbers of fractions", BoundaryTest::greatestNumbersOfFractions);
        TESTS.put("terms: the greatest numbers compared", BoundaryTest::greatestNumbersBesideEachOther);
    }

    private static void nameTestsOfTheRow() {
        TESTS.put("new: no condition", BoundaryTest::newHasNoCondition);
        TESTS.put("new: one level", BoundaryTest::newHasOneLevel);
        TESTS.put("new: no best point is remembered", BoundaryTest::newRemembersNothing);
        TESTS.put("add: a, b from -9 to 9, c from -99 to 99", BoundaryTest::addTakesWhatIsInRange);
        TESTS.put("add: the last values are held", BoundaryTest::addHoldsTheLastValues);
        TESTS.put("add: -1, and changes nothing, if a is out of its range", BoundaryTest::addRefusesA);
        TESTS.put("add: -1, and changes nothing, if b is out of its range", BoundaryTest::addRefusesB);
        TESTS.put("add: -1, and changes nothing, if c is out of its range", BoundaryTest::addRefusesC);
        TESTS.put("add: -1, and changes nothing, if a = b = 0", BoundaryTest::addRefusesBothZero);
        TESTS.put("add: -1, and changes nothing, if there are 10", BoundaryTest::addRefusesAnEleventh);
        TESTS.put("add: room again after pop", BoundaryTest::addHasRoomAgainAfterPop);
        TESTS.put("add: in the newest level", BoundaryTest::addGoesIntoTheNewestLevel);
        TESTS.put("push: -1, and changes nothing, if there are 8", BoundaryTest::pushRefusesANinthLevel);
        TESTS.put("push: room again after pop", BoundaryTest::pushHasRoomAgainAfterPop);
        TESTS.put("push: over a full row", BoundaryTest::pushOverAFullRow);
        TESTS.put("pop: -1, and changes nothing, if there is only one level", BoundaryTest::popRefusesTheOnlyLevel);
        TESTS.put("pop: an empty level", BoundaryTest::popTakesAnEmptyLevel);
        TESTS.put("pop: a level with all ten conditions", BoundaryTest::popTakesAFullLevel);
        TESTS.put("pop: all eight levels but one", BoundaryTest::popTakesAllEightLevelsButOne);
    }

    private static void nameTestsOfThePoint() {
        TESTS.put("possible: 1 if some point meets all, else 0", BoundaryTest::possibleOnTheEdge);
        TESTS.put("possible: changes nothing", BoundaryTest::possibleChangesNothing);
        TESTS.put("best: p and q from -9 to 9", BoundaryTest::bestTakesWhatIsInRange);
        TESTS.put("best: -1, and changes nothing, if p is out of its range", BoundaryTest::bestRefusesP);
        TESTS.put("best: -1, and changes nothing, if q is out of its range", BoundaryTest::bestRefusesQ);
        TESTS.put("best: 0, and forgets, if no point meets all", BoundaryTest::bestForgetsIfNoPointMeetsAll);
        TESTS.put("best: the row stays as it is", BoundaryTest::bestKeepsTheRow);
        TESTS.put("best: the new point in place of the old", BoundaryTest::bestTakesTheNewPointInPlaceOfTheOld);
        TESTS.put("numerator: which from 0 to 2", BoundaryTest::numeratorTakesWhich);
        TESTS.put("numerator: 0 if which is not from 0 to 2", BoundaryTest::numeratorRefusesWhich);
        TESTS.put("numerator: 0 if nothing is remembered", BoundaryTest::numeratorWithNothingRemembered);
        TESTS.put("denominator: which from 0 to 2", BoundaryTest::denominatorTakesWhich);
        TESTS.put("denominator: 0 if which is not from 0 to 2", BoundaryTest::denominatorRefusesWhich);
        TESTS.put("denominator: 0 if nothing is remembered", BoundaryTest::denominatorWithNothingRemembered);
        TESTS.put("test: a, b from -9 to 9, c from -99 to 99", BoundaryTest::testTakesWhatIsInRange);
        TESTS.put("test: 1 with equality, 2 otherwise, 0 if not met", BoundaryTest::testOnTheEdge);
        TESTS.put("test: -1 if nothing is remembered", BoundaryTest::testWithNothingRemembered);
        TESTS.put("test: -1 if a is out of its range", BoundaryTest::testRefusesA);
        TESTS.put("test: -1 if b is out of its range", BoundaryTest::testRefusesB);
        TESTS.put("test: -1 if c is out of its range", BoundaryTest::testRefusesC);
        TESTS.put("test: -1 if a = b = 0", BoundaryTest::testRefusesBothZero);
    }

    private static void nameTestsOfSpareAndOrder() {
        TESTS.put("spare: an empty row", BoundaryTest::spareOfAnEmptyRow);
        TESTS.put("spare: a full row", BoundaryTest::spareOfAFullRow);
        TESTS.put("spare: each alone", BoundaryTest::spareEachAlone);
        TESTS.put("spare: without changing which points meet all", BoundaryTest::spareOnTheEdge);
        TESTS.put("spare: beside the four that always hold", BoundaryTest::spareBesideTheBox);
        TESTS.put("spare: a line or a point is left", BoundaryTest::spareOfSmallRegions);
        TESTS.put("spare: no point meets all", BoundaryTest::spareIfNoPointMeetsAll);
        TESTS.put("spare: changes nothing", BoundaryTest::spareChangesNothing);
        TESTS.put("order: the four conditions are not counted", BoundaryTest::boxIsNotCounted);
        TESTS.put("order: add keeps what is remembered", BoundaryTest::addKeepsWhatIsRemembered);
        TESTS.put("order: push keeps what is remembered", BoundaryTest::pushKeepsWhatIsRemembered);
        TESTS.put("order: pop keeps what is remembered", BoundaryTest::popKeepsWhatIsRemembered);
        TESTS.put("order: what is forgotten stays forgotten", BoundaryTest::nothingComesBackByAddPushOrPop);
    }

    private static boolean holds(Runnable test) {
        wrong = 0;
        try {
            test.run();
        } catch (RuntimeException thrown) {
            wrong++;
            System.out.println("  threw " + thrown);
        }
        return wrong == 0;
    }

    public static void main(String[] args) {
        nameStates();
        nameTestsOfTerms();
        nameTestsOfTheRow();
        nameTestsOfThePoint();
        nameTestsOfSpareAndOrder();
        int run = 0;
        int failed = 0;
        for (Map.Entry<String, Runnable> test : TESTS.entrySet()) {
            if (args.length > 0 && !test.getKey().contains(args[0])) {
                continue;
            }
            run++;
            if (!holds(test.getValue())) {
                failed++;
                System.out.println("FAILED " + test.getKey());
            }
        }
        System.out.println(run - failed + " of " + run + " boundary tests hold");
        if (failed != 0 || run == 0) {
            System.exit(1);
        }
    }
}
