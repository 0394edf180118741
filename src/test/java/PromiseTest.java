// One method for each promise of the document, with answers worked out by hand from its words.
public final class PromiseTest {
    private static int wrong = 0;

    private static void due(String call, int got, int want) {
        if (got != want) {
            wrong++;
            System.out.println(call + " answered " + got + ", due is " + want);
        }
    }

    private static void duePoint(String when, CornerDesk desk, int... want) {
        for (int which = 0; which < 3; which++) {
            due(when + " numerator(" + which + ")", desk.numerator(which), want[2 * which]);
            due(when + " denominator(" + which + ")", desk.denominator(which), want[2 * which + 1]);
        }
    }

    private static void dueNothingRemembered(String when, CornerDesk desk) {
        duePoint(when, desk, 0, 0, 0, 0, 0, 0);
        due(when + " test(1, 0, 99)", desk.test(1, 0, 99), -1);
    }

    private static CornerDesk deskWith(int... conditions) {
        CornerDesk desk = new CornerDesk();
        for (int at = 0; at < conditions.length; at += 3) {
            due("deskWith add", desk.add(conditions[at], conditions[at + 1], conditions[at + 2]), at / 3 + 1);
        }
        return desk;
    }

    private static void promise1NewObject() {
        CornerDesk desk = new CornerDesk();
        dueNothingRemembered("1 new", desk);
        due("1 possible", desk.possible(), 1);
        due("1 spare", desk.spare(), 0);
        due("1 pop of the only level", desk.pop(), -1);
        due("1 push", desk.push(), 2);
        due("1 first add", desk.add(1, 1, 1), 1);

        CornerDesk other = new CornerDesk();
        due("1 objects are apart", other.add(1, 1, 1), 1);
        dueNothingRemembered("1 calls on the row remember nothing", desk);
    }

    private static void promise2Add() {
        int[][] refused = {
            {10, 0, 0}, {-10, 0, 0}, {0, 10, 0}, {0, -10, 0}, {1, 1, 100}, {1, 1, -100}, {0, 0, 0}, {0, 0, 99},
            {Integer.MIN_VALUE, 1, 1}, {1, Integer.MIN_VALUE, 1}, {1, 1, Integer.MIN_VALUE},
            {Integer.MAX_VALUE, 1, 1}, {1, Integer.MAX_VALUE, 1}, {1, 1, Integer.MAX_VALUE},
        };
        int[][] taken = {
            {9, 0, 99}, {-9, 0, 99}, {0, 9, 99}, {0, -9, 99}, {9, 9, 99}, {-9, -9, 99}, {1, 0, 0}, {0, 1, 0},
            {1, 0, 0}, {-1, -1, 99},
        };
        CornerDesk desk = new CornerDesk();
        for (int at = 0; at < taken.length; at++) {
            for (int[] bad : refused) {
                due("2 add out of range", desk.add(bad[0], bad[1], bad[2]), -1);
            }
            due("2 add", desk.add(taken[at][0], taken[at][1], taken[at][2]), at + 1);
        }
        due("2 add an eleventh", desk.add(1, 0, -99), -1);
        due("2 the eleventh changed nothing", desk.possible(), 1);
        due("2 add an eleventh in a new level", desk.push() + desk.add(1, 0, 0), 1);
        due("2 the row stays full", desk.pop(), 10);

        CornerDesk least = deskWith(1, 0, -50);
        due("2 c may be negative", least.best(1, 0), 1);
        duePoint("2 c may be negative", least, -50, 1, -50, 1, -50, 1);
        due("2 add with the least c", least.add(-9, -9, -99), 2);
        due("2 add with the greatest c", least.add(9, 9, 99), 3);
    }

    private static void promise3Push() {
        CornerDesk desk = new CornerDesk();
        for (int levels = 2; levels <= 8; levels++) {
            due("3 add before push", desk.add(1, 0, levels), levels - 1);
            due("3 push", desk.push(), levels);
        }
        due("3 a ninth level", desk.push(), -1);
        due("3 a ninth level again", desk.push(), -1);
        due("3 add in the eighth level", desk.add(1, 0, 9), 8);
        due("3 the refused push divided nothing", desk.pop(), 7);
        due("3 push after pop", desk.push(), 8);
    }

    private static void promise4Pop() {
        CornerDesk desk = deskWith(1, 0, 10);
        due("4 pop of the only level", desk.pop(), -1);
        due("4 push", desk.push(), 2);
        due("4 add", desk.add(1, 0, 5), 2);
        due("4 add", desk.add(1, 0, 4), 3);
        due("4 push", desk.push(), 3);
        due("4 push of an empty level", desk.push(), 4);
        due("4 pop of an empty level", desk.pop(), 3);
        due("4 add", desk.add(1, 0, 3), 4);
        due("4 pop", desk.pop(), 3);
        desk.best(1, 0);
        duePoint("4 after one pop", desk, 4, 1, 4, 1, -50, 1);
        due("4 pop", desk.pop(), 1);
        desk.best(1, 0);
        duePoint("4 after two pops", desk, 10, 1, 10, 1, -50, 1);
        due("4 pop of the first level", desk.pop(), -1);
        due("4 the refused pop changed nothing", desk.add(1, 0, 1), 2);
        due("4 add goes to the first level", desk.push() + desk.pop(), 4);
    }

    private static void promise5Possible() {
        due("5 touching lines", deskWith(1, 1, 3, -1, -1, -3).possible(), 1);
        due("5 parallel lines apart", deskWith(1, 1, 3, -1, -1, -4).possible(), 0);
        due("5 a single point", deskWith(1, 0, 1, -1, 0, -1, 0, 1, 2, 0, -1, -2).possible(), 1);
        due("5 three lines through a point", deskWith(1, 0, 0, 0, 1, 0, -1, -1, 0).possible(), 1);
        due("5 three lines just apart", deskWith(9, 0, 1, 0, 9, 1, -9, -9, -3).possible(), 0);
        due("5 a point that isn't whole", deskWith(2, 0, 1, -2, 0, -1).possible(), 1);
        due("5 the edge of the box", deskWith(-2, 1, -99, -1, 0, -49, 0, -1, -1).possible(), 1);
        due("5 the corner of the box", deskWith(-1, 0, -50, 0, -1, -50).possible(), 1);
        due("5 right of the box", deskWith(-1, 0, -51).possible(), 0);
        due("5 left of the box", deskWith(1, 0, -51).possible(), 0);
        due("5 above the box", deskWith(0, -1, -51).possible(), 0);
        due("5 below the box", deskWith(0, 1, -51).possible(), 0);

        CornerDesk desk = new CornerDesk();
        desk.best(1, 1);
        desk.push();
        desk.add(1, 0, -51);
        due("5 not possible", desk.possible(), 0);
        duePoint("5 possible forgets nothing", desk, 100, 1, 50, 1, 50, 1);
        desk.pop();
        due("5 possible after pop", desk.possible(), 1);
        duePoint("5 possible remembers nothing", desk, 100, 1, 50, 1, 50, 1);
    }

    private static void promise6Best() {
        CornerDesk desk = new CornerDesk();
        due("6 best(9, -9)", desk.best(9, -9), 1);
        duePoint("6 best(9, -9)", desk, 900, 1, 50, 1, -50, 1);
        due("6 best(-9, 9)", desk.best(-9, 9), 1);
        duePoint("6 best(-9, 9)", desk, 900, 1, -50, 1, 50, 1);
        due("6 tie on a level side: least x", desk.best(0, 1), 1);
        duePoint("6 tie on a level side: least x", desk, 50, 1, -50, 1, 50, 1);
        due("6 tie on an upright side: least y", desk.best(1, 0), 1);
        duePoint("6 tie on an upright side: least y", desk, 50, 1, 50, 1, -50, 1);
        due("6 all points tie", desk.best(0, 0), 1);
        duePoint("6 all points tie", desk, 0, 1, -50, 1, -50, 1);

        desk.best(1, 1);
        int[][] refused = {
            {10, 0}, {-10, 0}, {0, 10}, {0, -10},
            {Integer.MIN_VALUE, 0}, {0, Integer.MIN_VALUE}, {Integer.MAX_VALUE, 0}, {0, Integer.MAX_VALUE},
        };
        for (int[] bad : refused) {
            due("6 aim out of range", desk.best(bad[0], bad[1]), -1);
        }
        duePoint("6 a refused aim changes nothing", desk, 100, 1, 50, 1, 50, 1);
        desk.push();
        desk.add(1, 0, -51);
        due("6 aim out of range, no point", desk.best(10, 0), -1);
        duePoint("6 a refused aim forgets nothing", desk, 100, 1, 50, 1, 50, 1);
        due("6 no point", desk.best(1, 1), 0);
        dueNothingRemembered("6 no point", desk);
        desk.pop();
        dueNothingRemembered("6 pop brings nothing back", desk);

        CornerDesk slanted = deskWith(2, 3, 12, 3, 1, 9);
        due("6 best(1, 1)", slanted.best(1, 1), 1);
        duePoint("6 best(1, 1)", slanted, 33, 7, 15, 7, 18, 7);
        due("6 tie on a slanted side", slanted.best(2, 3), 1);
        duePoint("6 tie on a slanted side", slanted, 12, 1, -50, 1, 112, 3);
    }

    private static void promises7And8Fractions() {
        CornerDesk desk = deskWith(9, 0, -6, 0, 8, 6);
        desk.best(3, 4);
        duePoint("7, 8 reduced, sign above", desk, 1, 1, -2, 3, 3, 4);
        int[] refused = {-1, 3, 4, Integer.MIN_VALUE, Integer.MAX_VALUE};
        for (int which : refused) {
            due("7 numerator(" + which + ")", desk.numerator(which), 0);
            due("8 denominator(" + which + ")", desk.denominator(which), 0);
        }
        duePoint("7, 8 asking changes nothing", desk, 1, 1, -2, 3, 3, 4);

        CornerDesk zero = deskWith(9, 0, 0, 0, 7, 0);
        zero.best(5, 5);
        duePoint("7, 8 zero is 0 / 1", zero, 0, 1, 0, 1, 0, 1);

        CornerDesk wide = deskWith(9, 8, 98, 8, -9, -97);
        wide.best(1, 0);
        duePoint("7, 8 greatest numbers", wide, 106, 145, 106, 145, 1657, 145);

        CornerDesk apart = deskWith(2, 0, 1, 0, 3, 1);
        apart.best(2, 1);
        duePoint("7, 8 each with a denominator of its own", apart, 4, 3, 1, 2, 1, 3);
    }

    private static void promise9Test() {
        CornerDesk desk = deskWith(3, 0, 1, 0, 3, 2);
        due("9 nothing remembered", desk.test(3, 0, 1), -1);
        desk.best(1, 1);
        due("9 equality", desk.test(3, 0, 1), 1);
        due("9 equality on a new line", desk.test(1, 1, 1), 1);
        due("9 equality, negative", desk.test(-3, -3, -3), 1);
        due("9 met", desk.test(1, 0, 1), 2);
        due("9 met with the greatest numbers", desk.test(9, 9, 99), 2);
        due("9 just met", desk.test(9, 9, 10), 2);
        due("9 just not met", desk.test(9, 9, 8), 0);
        due("9 not met", desk.test(1, 0, 0), 0);
        due("9 not met with the least numbers", desk.test(-9, -9, -99), 0);
        int[][] refused = {
            {0, 0, 0}, {0, 0, 5}, {10, 0, 0}, {-10, 0, 0}, {0, 10, 0}, {0, -10, 0}, {1, 0, 100}, {1, 0, -100},
            {Integer.MIN_VALUE, 1, 1}, {1, Integer.MIN_VALUE, 1}, {1, 1, Integer.MIN_VALUE},
            {Integer.MAX_VALUE, 1, 1}, {1, Integer.MAX_VALUE, 1}, {1, 1, Integer.MAX_VALUE},
        };
        for (int[] bad : refused) {
            due("9 test out of range", desk.test(bad[0], bad[1], bad[2]), -1);
        }
        due("9 test adds nothing", desk.add(1, 0, 1), 3);
        due("9 test is not asked of the row", desk.push() + desk.add(1, 0, -40) + desk.test(3, 0, 1), 7);
    }

    private static void promise10Spare() {
        due("10 none", new CornerDesk().spare(), 0);
        due("10 both cut", deskWith(2, 3, 12, 3, 1, 9).spare(), 0);
        due("10 the wider of two", deskWith(1, 0, 5, 1, 0, 6).spare(), 1);
        due("10 the same twice: each alone", deskWith(1, 0, 5, 1, 0, 5).spare(), 2);
        due("10 the same, scaled", deskWith(1, 2, 3, 3, 6, 9).spare(), 2);
        due("10 a side of the box", deskWith(1, 0, 50).spare(), 1);
        due("10 beyond the box", deskWith(1, 0, 51).spare(), 1);
        due("10 just inside the box", deskWith(2, 0, 99).spare(), 0);
        due("10 touches a corner", deskWith(1, 0, 0, 0, 1, 0, 1, 1, 0).spare(), 1);
        due("10 cuts a corner off", deskWith(1, 0, 1, 0, 1, 0, 1, 1, 0).spare(), 0);
        due("10 a line from both sides", deskWith(1, -1, 0, -1, 1, 0).spare(), 0);
        due("10 a point from three sides", deskWith(1, 0, 0, 0, 1, 0, -1, -1, 0).spare(), 0);
        due("10 a point from four sides", deskWith(1, 0, 0, -1, 0, 0, 0, 1, 0, 0, -1, 0).spare(), 0);
        due("10 a point, and a line through it", deskWith(1, 0, 0, 0, 1, 0, -1, -1, 0, 1, -1, 0).spare(), 2);
        due("10 no point by one alone", deskWith(1, 0, -51).spare(), 0);
        due("10 no point by two, each alone", deskWith(1, 0, -51, 0, 1, -51).spare(), 2);
        due("10 no point by a pair", deskWith(1, 0, 0, -1, 0, -1, 0, 1, 7).spare(), 1);

        CornerDesk desk = deskWith(1, 0, 5, 1, 0, 6);
        desk.best(1, 0);
        due("10 spare over all levels", desk.push() + desk.add(1, 0, 4) + desk.spare(), 7);
        duePoint("10 spare remembers nothing", desk, 5, 1, 5, 1, -50, 1);
        due("10 spare takes nothing away", desk.add(0, 1, 0), 4);
        due("10 spare after pop", desk.pop() + desk.spare(), 3);

        CornerDesk full = new CornerDesk();
        for (int at = 0; at < 10; at++) {
            full.add(0, 1, 1);
        }
        due("10 ten alike", full.spare(), 10);
    }

    private static void promise11OrderAndLimits() {
        CornerDesk desk = deskWith(1, 0, 3, 0, 1, 4);
        due("11 best", desk.best(1, 1), 1);
        desk.push();
        duePoint("11 after push", desk, 7, 1, 3, 1, 4, 1);
        due("11 add counts the row alone", desk.add(1, 0, -51), 3);
        duePoint("11 after an add that rules all out", desk, 7, 1, 3, 1, 4, 1);
        due("11 the remembered point is tested", desk.test(1, 0, 3), 1);
        due("11 pop counts the row alone", desk.pop(), 2);
        duePoint("11 after pop", desk, 7, 1, 3, 1, 4, 1);
        desk.push();
        desk.add(1, 1, 0);
        desk.best(1, 1);
        due("11 pop", desk.pop(), 2);
        duePoint("11 the popped level's best stays", desk, 0, 1, -4, 1, 4, 1);
    }

    public static void main(String[] args) {
        promise1NewObject();
        promise2Add();
        promise3Push();
        promise4Pop();
        promise5Possible();
        promise6Best();
        promises7And8Fractions();
        promise9Test();
        promise10Spare();
        promise11OrderAndLimits();
        System.out.println(wrong == 0 ? "all answers are as due" : wrong + " answers are not as due");
        if (wrong != 0) {
            System.exit(1);
        }
    }
}
