import java.util.ArrayList;
import java.util.HashSet;
import java.util.List;
import java.util.Set;

// Long runs of calls against a model that works in another way than the class: it cuts the box
// with one condition after the other, as a polygon of exact points, and compares sets of corners.
public final class ModelTest {
    private static final int OBJECTS = 300;
    private static final int CALLS = 512;

    private record Fraction(long top, long bottom) {
        static Fraction of(long top, long bottom) {
            long divisor = bottom < 0 ? -1 : 1;
            long a = Math.abs(top);
            long b = Math.abs(bottom);
            while (b != 0) {
                long rest = a % b;
                a = b;
                b = rest;
            }
            return new Fraction(top / (divisor * a), bottom / (divisor * a));
        }

        Fraction plus(Fraction other) {
            return of(Math.addExact(Math.multiplyExact(top, other.bottom), Math.multiplyExact(other.top, bottom)),
                Math.multiplyExact(bottom, other.bottom));
        }

        Fraction times(Fraction other) {
            return of(Math.multiplyExact(top, other.top), Math.multiplyExact(bottom, other.bottom));
        }

        Fraction times(long factor) {
            return times(new Fraction(factor, 1));
        }

        Fraction minus(Fraction other) {
            return plus(other.times(-1));
        }

        Fraction over(Fraction other) {
            return times(of(other.bottom, other.top));
        }

        int sign() {
            return Long.signum(top);
        }
    }

    private record Point(Fraction x, Fraction y) {
        Fraction along(long p, long q) {
            return x.times(p).plus(y.times(q));
        }

        Point towards(Point other, Fraction share) {
            return new Point(x.plus(other.x.minus(x).times(share)), y.plus(other.y.minus(y).times(share)));
        }
    }

    private record Condition(int a, int b, int c) {
        // Below 0 inside, 0 on the line, above 0 outside.
        Fraction excess(Point point) {
            return point.along(a, b).minus(new Fraction(c, 1));
        }
    }

    private static final class Model {
        private final List<List<Condition>> levels = new ArrayList<>(List.of(new ArrayList<>()));
        private Fraction[] remembered = null;

        private List<Condition> row() {
            List<Condition> row = new ArrayList<>();
            levels.forEach(row::addAll);
            return row;
        }

        private static boolean inRange(int a, int b, int c) {
            return a >= -9 && a <= 9 && b >= -9 && b <= 9 && c >= -99 && c <= 99 && !(a == 0 && b == 0);
        }

        private static Point whole(long x, long y) {
            return new Point(new Fraction(x, 1), new Fraction(y, 1));
        }

        private static List<Point> cut(List<Point> polygon, Condition condition) {
            List<Point> left = new ArrayList<>();
            for (int at = 0; at < polygon.size(); at++) {
                Point here = polygon.get(at);
                Point next = polygon.get((at + 1) % polygon.size());
                Fraction excessHere = condition.excess(here);
                Fraction excessNext = condition.excess(next);
                if (excessHere.sign() <= 0) {
                    left.add(here);
                }
                if (excessHere.sign() * excessNext.sign() < 0) {
                    left.add(here.towards(next, excessHere.over(excessHere.minus(excessNext))));
                }
            }
            return left;
        }

        private static boolean between(Point middle, Point one, Point two) {
            Fraction dx1 = one.x().minus(middle.x());
            Fraction dy1 = one.y().minus(middle.y());
            Fraction dx2 = two.x().minus(middle.x());
            Fraction dy2 = two.y().minus(middle.y());
            return dx1.times(dy2).minus(dx2.times(dy1)).sign() == 0
                && dx1.times(dx2).plus(dy1.times(dy2)).sign() < 0;
        }

        // The corners alone, so that two regions are the same exactly if these sets are.
        private static Set<Point> corners(List<Condition> conditions) {
            List<Point> polygon = List.of(whole(-50, -50), whole(50, -50), whole(50, 50), whole(-50, 50));
            for (Condition condition : conditions) {
                polygon = cut(polygon, condition);
            }
            Set<Point> corners = new HashSet<>(polygon);
            for (Point point : polygon) {
                for (Point one : polygon) {
                    for (Point two : polygon) {
                        if (between(point, one, two)) {
                            corners.remove(point);
                        }
                    }
                }
            }
            return corners;
        }

        int add(int a, int b, int c) {
            if (!inRange(a, b, c) || row().size() == 10) {
                return -1;
            }
            levels.get(levels.size() - 1).add(new Condition(a, b, c));
            return row().size();
        }

        int push() {
            if (levels.size() == 8) {
                return -1;
            }
            levels.add(new ArrayList<>());
            return levels.size();
        }

        int pop() {
            if (levels.size() == 1) {
                return -1;
            }
            levels.remove(levels.size() - 1);
            return row().size();
        }

        int possible() {
            return corners(row()).isEmpty() ? 0 : 1;
        }

        int best(int p, int q) {
            if (p < -9 || p > 9 || q < -9 || q > 9) {
                return -1;
            }
            remembered = null;
            for (Point point : corners(row())) {
                Fraction[] offer = {point.along(p, q), point.x(), point.y()};
                if (remembered == null || better(offer, remembered)) {
                    remembered = offer;
                }
            }
            return remembered == null ? 0 : 1;
        }

        private static boolean better(Fraction[] offer, Fraction[] held) {
            int byValue = offer[0].minus(held[0]).sign();
            int byX = held[1].minus(offer[1]).sign();
            int byY = held[2].minus(offer[2]).sign();
            return byValue != 0 ? byValue > 0 : byX != 0 ? byX > 0 : byY > 0;
        }

        int numerator(int which) {
            return remembered == null || which < 0 || which > 2 ? 0 : (int) remembered[which].top();
        }

        int denominator(int which) {
            return remembered == null || which < 0 || which > 2 ? 0 : (int) remembered[which].bottom();
        }

        int test(int a, int b, int c) {
            if (remembered == null || !inRange(a, b, c)) {
                return -1;
            }
            int sign = new Condition(a, b, c).excess(new Point(remembered[1], remembered[2])).sign();
            return sign == 0 ? 1 : sign < 0 ? 2 : 0;
        }

        int spare() {
            List<Condition> row = row();
            Set<Point> all = corners(row);
            int found = 0;
            for (int at = 0; at < row.size(); at++) {
                List<Condition> rest = new ArrayList<>(row);
                rest.remove(at);
                if (corners(rest).equals(all)) {
                    found++;
                }
            }
            return found;
        }
    }

    // A fixed sequence, so that every run of the tests makes the same calls.
    private static long seed = 20261115L;

    private static int pick(int least, int greatest) {
        seed = seed * 6364136223846793005L + 1442695040888963407L;
        return least + (int) ((seed >>> 33) % (greatest - least + 1));
    }

    private static int wrong = 0;
    private static final int[] POSSIBLE_SEEN = new int[2];
    private static final int[] SPARE_SEEN = new int[11];

    private static int due(int object, String call, int got, int want) {
        if (got != want) {
            wrong++;
            System.out.println("object " + object + ": " + call + " answered " + got + ", due is " + want);
        }
        return want;
    }

    // Small coefficients make lines meet in one point, lie on each other and lie opposite often.
    private static void call(int object, CornerDesk desk, Model model, int reach, int farthest) {
        boolean stray = pick(1, 20) == 1;
        int a = pick(-reach, reach) * (stray ? 5 : 1);
        int b = pick(-reach, reach) * (stray ? 5 : 1);
        int c = pick(-farthest, farthest) * (stray ? 2 : 1);
        String abc = "(" + a + ", " + b + ", " + c + ")";
        int which = pick(-1, 3);
        switch (pick(0, 14)) {
            case 0, 1, 2, 3 -> due(object, "add" + abc, desk.add(a, b, c), model.add(a, b, c));
            case 4 -> due(object, "push", desk.push(), model.push());
            case 5, 6 -> due(object, "pop", desk.pop(), model.pop());
            case 7 -> POSSIBLE_SEEN[due(object, "possible", desk.possible(), model.possible())]++;
            case 8, 9 -> due(object, "best" + abc, desk.best(a, b), model.best(a, b));
            case 10, 11 -> due(object, "test" + abc, desk.test(a, b, c), model.test(a, b, c));
            case 12 -> SPARE_SEEN[due(object, "spare", desk.spare(), model.spare())]++;
            case 13 -> due(object, "numerator " + which, desk.numerator(which), model.numerator(which));
            default -> due(object, "denominator " + which, desk.denominator(which), model.denominator(which));
        }
    }

    public static void main(String[] args) {
        int[] reaches = {1, 2, 3, 9, 9};
        int[] farthests = {2, 6, 99, 99, 30};
        for (int object = 0; object < OBJECTS; object++) {
            CornerDesk desk = new CornerDesk();
            Model model = new Model();
            int kind = object % reaches.length;
            for (int made = 0; made < CALLS; made++) {
                call(object, desk, model, reaches[kind], farthests[kind]);
            }
        }
        // A sequence that never reaches a kind of state would test nothing there.
        for (int at = 0; at < 2; at++) {
            if (POSSIBLE_SEEN[at] < 100) {
                wrong++;
                System.out.println("possible was due as " + at + " only " + POSSIBLE_SEEN[at] + " times");
            }
        }
        for (int at = 0; at <= 10; at++) {
            if (SPARE_SEEN[at] == 0) {
                wrong++;
                System.out.println("spare was never due as " + at);
            }
        }
        System.out.println(wrong == 0 ? "all answers are as due" : wrong + " answers are not as due");
        if (wrong != 0) {
            System.exit(1);
        }
    }
}
