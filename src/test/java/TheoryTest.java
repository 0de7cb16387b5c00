import java.util.ArrayList;
import java.util.HashMap;
import java.util.List;
import java.util.Map;
import java.util.Random;

/**
 * What is known of square-tiled surfaces, and follows from neither the class nor the model: the sizes of orbits, the
 * sums of Lyapunov exponents, and that slopes go with shears and turns.
 */
public final class TheoryTest {
    private static final int SPENT = -6;
    private static int wrong = 0;

    private TheoryTest() {
    }

    public static void main(String[] args) {
        allGrounds();
        evenGrounds();
        singleGroundsOfSpanTwo();
        Random random = new Random(20261116);
        for (int round = 0; round < 4000; round++) {
            SquareGrounds x = new SquareGrounds();
            if (layRandom(x, 0, random) > 0) {
                sums(x);
                parts(x);
                slopes(x, random);
                renumbered(x, random);
            }
        }
        System.out.println(wrong == 0 ? "theory agrees" : wrong + " answers are not as due");
        if (wrong != 0) {
            System.exit(1);
        }
    }

    private static void due(String what, long got, long want) {
        if (got != want) {
            wrong++;
            System.out.println(what + ": " + got + ", due is " + want);
        }
    }

    private static int lay(SquareGrounds x, int g, int[] right, int[] up) {
        x.sheet(0, right.length);
        x.sheet(1, up.length);
        for (int s = 0; s < right.length; s++) {
            x.lay(0, s, right[s]);
            x.lay(1, s, up[s]);
        }
        return x.ground(g, 0, 1);
    }

    private static int[] shuffled(int n, Random random) {
        int[] row = new int[n];
        for (int i = 0; i < n; i++) {
            int j = random.nextInt(i + 1);
            row[i] = row[j];
            row[j] = i;
        }
        return row;
    }

    private static int layRandom(SquareGrounds x, int g, Random random) {
        int n = 1 + random.nextInt(8);
        int[] right = shuffled(n, random);
        int[] up = shuffled(n, random);
        if (random.nextBoolean()) {
            // One exchange alone keeps the SPAN low, and REACH small.
            for (int s = 0; s < n; s++) {
                right[s] = (s + 1) % n;
                up[s] = s;
            }
            int other = random.nextInt(n);
            up[0] = other;
            up[other] = 0;
        }
        return lay(x, g, right, up);
    }

    private static void permutations(List<int[]> all, int[] row, int from) {
        if (from == row.length) {
            all.add(row.clone());
        }
        for (int i = from; i < row.length; i++) {
            exchange(row, from, i);
            permutations(all, row, from + 1);
            exchange(row, from, i);
        }
    }

    private static void exchange(int[] row, int i, int j) {
        int was = row[i];
        row[i] = row[j];
        row[j] = was;
    }

    /**
     * As many NAMES as the free group of two letters has subgroups of index n, up to turning them about; each NAME comes
     * of n! by SELVES pairs of rows, and is in one REACH alone.
     */
    private static void allGrounds() {
        int[] names = {0, 1, 3, 7, 26, 97};
        int[] reaches = {0, 1, 1, 2, 5, 8};
        for (int n = 1; n <= 5; n++) {
            int[] row = new int[n];
            for (int s = 0; s < n; s++) {
                row[s] = s;
            }
            List<int[]> rows = new ArrayList<>();
            permutations(rows, row, 0);
            Map<String, Integer> met = new HashMap<>();
            double parts = 0;
            int pairs = 0;
            for (int[] right : rows) {
                for (int[] up : rows) {
                    SquareGrounds x = new SquareGrounds();
                    if (lay(x, 0, right, up) > 0 && met.merge(nameOf(x), 1, Integer::sum) == 1) {
                        parts += 1.0 / x.reach(0);
                        pairs += rows.size() / x.told(0, 5);
                    }
                }
            }
            due("NAMES of " + n, met.size(), names[n]);
            due("REACHES of " + n, Math.round(parts * 1000), 1000L * reaches[n]);
            due("pairs of rows of " + n, met.values().stream().mapToInt(Integer::intValue).sum(), pairs);
        }
    }

    private static String nameOf(SquareGrounds x) {
        StringBuilder name = new StringBuilder();
        for (int i = 0; i < 2 * x.told(0, 0); i++) {
            name.append(x.name(0, i));
        }
        return name.toString();
    }

    /** A row of n: its REACH has as many as the projective line over the numbers below n, all SHARES' mean is 1. */
    private static void evenGrounds() {
        int[] reach = {0, 1, 3, 4, 6, 6, 12, 8, 12};
        for (int n = 1; n <= 8; n++) {
            int[] right = new int[n];
            int[] up = new int[n];
            for (int s = 0; s < n; s++) {
                right[s] = (s + 1) % n;
                up[s] = s;
            }
            SquareGrounds x = new SquareGrounds();
            due("a row of " + n, lay(x, 0, right, up), n);
            due("its REACH", x.reach(0), reach[n]);
            due("its SELVES", x.told(0, 5), n);
        }
    }

    /**
     * An L whose arms have one SQUARE's breadth, for each n and each length of an arm: 3/8 (n - 2) n^2 and, for odd n,
     * 3/16 (n - 1) n^2 or 3/16 (n - 3) n^2, times 1 - 1/p^2 for each prime p of n.
     */
    private static void singleGroundsOfSpanTwo() {
        int[][] reach = {{3}, {9}, {18, 9}, {36}, {54, 36}, {108}};
        for (int n = 3; n <= 8; n++) {
            for (int arm = 2; arm < n; arm++) {
                int[] right = new int[n];
                int[] up = new int[n];
                for (int s = 0; s < n; s++) {
                    right[s] = s < arm ? (s + 1) % arm : s;
                    up[s] = s == 0 ? arm : s < arm ? s : (s + 1) % n;
                }
                SquareGrounds x = new SquareGrounds();
                due("an L of " + n, lay(x, 0, right, up), n);
                int many = x.reach(0);
                int[] known = reach[n - 3];
                due("its REACH is known", many == known[0] || many == known[known.length - 1] ? 1 : 0, 1);
            }
        }
    }

    /** 1 without bends, 4/3 and 3/2 for SPAN 2, 8/5 or 9/5 for one CORNER of BEND 4: whatever the GROUND. */
    private static void sums(SquareGrounds x) {
        int answer = x.twist(0);
        if (answer == SPENT) {
            return;
        }
        due("twist", answer, 1);
        if (x.told(0, 2) == 1) {
            due("the sum of an EVEN one, upper", x.upper(), 1);
            due("the sum of an EVEN one, lower", x.lower(), 1);
        }
        if (x.told(0, 2) == 2) {
            boolean single = x.told(0, 1) == 2;
            due("the sum with SPAN 2, upper", x.upper(), single ? 4 : 3);
            due("the sum with SPAN 2, lower", x.lower(), single ? 3 : 2);
        }
        if (x.told(0, 2) == 3 && x.told(0, 1) == 2) {
            due("the sum with one BEND 4, upper", x.upper() == 8 || x.upper() == 9 ? 1 : 0, 1);
            due("the sum with one BEND 4, lower", x.lower(), 5);
        }
    }

    /** All SQUARES lie in CYLINDERS, all of REACH in CUSPS, and REACH has the same SELVES throughout. */
    private static void parts(SquareGrounds x) {
        int squares = 0;
        for (int i = 0; x.cylinder(0, i, 0) > 0; i++) {
            squares += x.cylinder(0, i, 0) * x.cylinder(0, i, 1);
        }
        due("SQUARES in CYLINDERS", squares, x.told(0, 0));
        int many = x.reach(0);
        if (many == SPENT) {
            return;
        }
        int sum = 0;
        for (int i = 0; x.width(0, i) > 0; i++) {
            sum += x.width(0, i);
        }
        due("all WIDTHS", sum, many);
        due("SELVES of the last in REACH", x.reached(0, many - 1, 2), x.told(0, 5));
    }

    private static int divisor(int a, int b) {
        return b == 0 ? Math.abs(a) : divisor(b, a % b);
    }

    /** The slope (p, q) is (p + q, q) after a SHEAR, and (-q, p) after a TURN. */
    private static void slopes(SquareGrounds x, Random random) {
        int p = random.nextInt(51) - 25;
        int q = random.nextInt(25);
        if (divisor(p, q) != 1 || q == 0 && p != 1) {
            return;
        }
        int before = x.cylinders(0, p, q);
        x.twin(0, 1);
        x.see(1, p, q);
        due("CYLINDERS of what is seen", x.cylinders(1, 1, 0), before);
        due("one that is seen is come to", x.comes(0, 1) >= 0 || x.reach(0) == SPENT ? 1 : 0, 1);
        x.twin(0, 2);
        x.shear(2, 1);
        due("CYLINDERS after a SHEAR", x.cylinders(2, p + q, q), before);
        x.shear(2, -1);
        x.turn(2);
        boolean flip = p < 0 || p == 0 && q > 0;
        due("CYLINDERS after a TURN", x.cylinders(2, flip ? q : -q, flip ? -p : p), before);
    }

    /** Whatever is the same however SQUARES are numbered. */
    private static void renumbered(SquareGrounds x, Random random) {
        int n = x.told(0, 0);
        int[] numbers = shuffled(n, random);
        int[] right = new int[n];
        int[] up = new int[n];
        for (int s = 0; s < n; s++) {
            right[numbers[s]] = numbers[x.next(0, s, false)];
            up[numbers[s]] = numbers[x.next(0, s, true)];
        }
        due("numbered anew", lay(x, 3, right, up), n);
        due("alike", x.alike(0, 3), 1);
        for (int what = 0; what < 6; what++) {
            due("told " + what, x.told(3, what), x.told(0, what));
        }
        for (int i = 0; i < 2 * n; i++) {
            due("place " + i, x.name(3, i), x.name(0, i));
        }
        due("reach", x.reach(3), x.reach(0));
        due("comes", x.comes(0, 3), x.reach(0) == SPENT ? SPENT : 0);
    }
}
