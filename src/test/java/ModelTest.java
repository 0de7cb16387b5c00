import java.math.BigInteger;
import java.util.ArrayList;
import java.util.HashMap;
import java.util.HashSet;
import java.util.LinkedHashMap;
import java.util.List;
import java.util.Map;
import java.util.Random;
import java.util.Set;
import java.util.TreeMap;
import java.util.TreeSet;

/** Long runs of calls, drawn from fixed seeds, on the class and on a slow model that follows the document's words. */
public final class ModelTest {
    private static final int RUNS = 400, CALLS = 512;
    private static final int[] ODD_NUMBERS = {-1, -2, 11, 51, -51, 101, -101, 500, 1000,
        Integer.MAX_VALUE, Integer.MIN_VALUE, Integer.MAX_VALUE - 1, Integer.MIN_VALUE + 1};

    private static int wrong = 0;
    private static final Map<String, Integer> answered = new TreeMap<>();

    private ModelTest() {
    }

    public static void main(String[] args) {
        for (int run = 0; run < RUNS && wrong < 20; run++) {
            new Run(run).play();
        }
        if (wrong == 0) {
            demandAllAnswers();
        }
        System.out.println(wrong == 0 ? "the class answers as the model" : wrong + " answers are not as the model's");
        if (wrong != 0) {
            System.exit(1);
        }
    }

    /** A run that never meets an answer proves nothing about it. */
    private static void demandAllAnswers() {
        String[] answers = {"ground -4", "reach -6", "reached -6", "cusps -6", "width -6", "meanShare -6", "twist -6",
            "comes -6", "reached -9", "width -9", "comes -9", "cylinder -9", "sheet -3", "lay -3", "copy -3", "mark -3",
            "mean -3", "name -3", "bend -3", "next -3", "see -1", "cylinders -1", "shear -1", "comes +", "alike +",
            "reached +", "width +", "twist +", "meanShare +", "share +", "see +", "cylinder +", "mark +", "mean +"};
        for (String answer : answers) {
            if (answered.getOrDefault(answer, 0) < 10) {
                wrong++;
                System.out.println("the runs hardly ever meet: " + answer + " " + answered);
            }
        }
    }

    /** A fraction in lowest terms. */
    private static final class Part {
        final BigInteger over;
        final BigInteger under;

        Part(BigInteger over, BigInteger under) {
            BigInteger divisor = over.gcd(under);
            this.over = over.divide(divisor);
            this.under = under.divide(divisor);
        }

        static Part of(long over, long under) {
            return new Part(BigInteger.valueOf(over), BigInteger.valueOf(under));
        }

        Part plus(Part other) {
            return new Part(over.multiply(other.under).add(other.over.multiply(under)), under.multiply(other.under));
        }

        Part by(long number) {
            return new Part(over, under.multiply(BigInteger.valueOf(number)));
        }
    }

    private static final class Refused extends RuntimeException {
        private static final long serialVersionUID = 1L;
        final int answer;
        final int finding;

        Refused(int answer, int finding) {
            super(null, null, false, false);
            this.answer = answer;
            this.finding = finding;
        }
    }

    private static void bad(boolean isBad) {
        if (isBad) {
            throw new Refused(-1, 0);
        }
    }

    private static void finding(boolean is, int finding) {
        if (is) {
            throw new Refused(-3, finding);
        }
    }

    /** A ground that never changes; its ways are lists. */
    private static final class Plan {
        final List<Integer> right;
        final List<Integer> up;
        private final List<Set<Integer>> corners = new ArrayList<>();

        Plan(List<Integer> right, List<Integer> up) {
            this.right = right;
            this.up = up;
            for (int s = 0; s < right.size(); s++) {
                Set<Integer> corner = new TreeSet<>();
                for (int at = s; corner.add(at);) {
                    at = up.indexOf(right.indexOf(up.get(right.get(at))));
                }
                if (!corners.contains(corner)) {
                    corners.add(corner);
                }
            }
        }

        int n() {
            return right.size();
        }

        int bend(int square) {
            for (Set<Integer> corner : corners) {
                if (corner.contains(square)) {
                    return corner.size() - 1;
                }
            }
            throw new IllegalStateException();
        }

        List<Integer> bends() {
            List<Integer> bends = new ArrayList<>();
            for (Set<Integer> corner : corners) {
                if (corner.size() > 1) {
                    bends.add(corner.size() - 1);
                }
            }
            return bends;
        }

        int kind() {
            List<Integer> bends = bends();
            if (bends.size() < 2) {
                return bends.size() + 1;
            }
            return bends.size() == 2 && bends.get(0).equals(bends.get(1)) ? 3 : 0;
        }

        int span() {
            int sum = 0;
            for (int k : bends()) {
                sum += k;
            }
            return (sum + 2) / 2;
        }

        private String rowFrom(int square) {
            List<Integer> order = new ArrayList<>();
            order.add(square);
            for (int i = 0; i < order.size(); i++) {
                for (int way : new int[] {right.get(order.get(i)), up.get(order.get(i))}) {
                    if (!order.contains(way)) {
                        order.add(way);
                    }
                }
            }
            StringBuilder row = new StringBuilder();
            for (int s : order) {
                row.append(order.indexOf(right.get(s)));
            }
            for (int s : order) {
                row.append(order.indexOf(up.get(s)));
            }
            return row.toString();
        }

        String nameOf() {
            String least = rowFrom(0);
            for (int s = 1; s < n(); s++) {
                least = rowFrom(s).compareTo(least) < 0 ? rowFrom(s) : least;
            }
            return least;
        }

        int selves() {
            int selves = 0;
            for (int s = 0; s < n(); s++) {
                selves += rowFrom(s).equals(nameOf()) ? 1 : 0;
            }
            return selves;
        }

        private static List<Integer> back(List<Integer> ways) {
            List<Integer> back = new ArrayList<>();
            for (int s = 0; s < ways.size(); s++) {
                back.add(ways.indexOf(s));
            }
            return back;
        }

        private static List<Integer> then(List<Integer> first, List<Integer> second) {
            List<Integer> both = new ArrayList<>();
            for (int s : first) {
                both.add(second.get(s));
            }
            return both;
        }

        Plan sheared(int times) {
            Plan plan = this;
            for (int k = 0; k < Math.abs(times); k++) {
                plan = new Plan(right, then(times > 0 ? back(right) : right, plan.up));
            }
            return plan;
        }

        Plan turned() {
            return new Plan(back(up), right);
        }

        Plan turnedBack() {
            return new Plan(up, back(right));
        }

        Plan seen(int p, int q) {
            if (q == 0) {
                return this;
            }
            int times = (int) Math.floor(p / (double) q);
            return sheared(-times).turnedBack().seen(-q, p - q * times);
        }

        private Set<Integer> ring(int square) {
            Set<Integer> ring = new TreeSet<>();
            for (int at = square; ring.add(at);) {
                at = right.get(at);
            }
            return ring;
        }

        /** The CYLINDER of a SQUARE, as its RINGS. */
        private Set<Set<Integer>> cylinderOf(int square) {
            Set<Set<Integer>> rings = new HashSet<>();
            rings.add(ring(square));
            for (int round = 0; round < n(); round++) {
                for (int s = 0; s < n(); s++) {
                    boolean flat = true;
                    for (int low : ring(s)) {
                        flat &= bend(low) == 0;
                    }
                    if (flat && (rings.contains(ring(s)) || rings.contains(ring(up.get(s))))) {
                        rings.add(ring(s));
                        rings.add(ring(up.get(s)));
                    }
                }
            }
            return rings;
        }

        /** Of each CYLINDER w, h, its least SQUARE. */
        List<int[]> cylinders() {
            List<int[]> list = new ArrayList<>();
            Set<Integer> done = new HashSet<>();
            for (int s = 0; s < n(); s++) {
                if (!done.contains(s)) {
                    Set<Set<Integer>> rings = cylinderOf(s);
                    rings.forEach(done::addAll);
                    list.add(new int[] {ring(s).size(), rings.size(), s});
                }
            }
            return list;
        }

        Part share() {
            Part sum = Part.of(0, 1);
            for (int[] cylinder : cylinders()) {
                sum = sum.plus(Part.of(cylinder[1], cylinder[0]));
            }
            return sum;
        }

        Part bendSum() {
            Part sum = Part.of(0, 1);
            for (int k : bends()) {
                sum = sum.plus(Part.of((long) k * (k + 2), k + 1));
            }
            return sum.by(12);
        }
    }

    private static final class Orbit {
        private static final Map<String, Orbit> known = new HashMap<>();
        final Map<String, Integer> numbers = new LinkedHashMap<>();
        final List<Plan> plans = new ArrayList<>();
        final List<int[]> ways = new ArrayList<>();
        boolean spent;
        private Part shares;

        private Orbit(Plan plan) {
            numbers.put(plan.nameOf(), 0);
            plans.add(plan);
            for (int i = 0; i < plans.size() && !spent; i++) {
                ways.add(new int[] {number(plans.get(i).sheared(1)), number(plans.get(i).turned())});
            }
        }

        private int number(Plan plan) {
            String name = plan.nameOf();
            if (!numbers.containsKey(name)) {
                numbers.put(name, plans.size());
                plans.add(plan);
                spent |= plans.size() > 500;
            }
            return numbers.get(name);
        }

        static Orbit of(Plan plan) {
            return known.computeIfAbsent(plan.nameOf(), name -> new Orbit(plan));
        }

        List<Integer> widths() {
            List<Integer> widths = new ArrayList<>();
            Set<Integer> met = new HashSet<>();
            for (int i = 0; i < plans.size(); i++) {
                int before = met.size();
                for (int at = i; met.add(at);) {
                    at = ways.get(at)[0];
                }
                if (met.size() > before) {
                    widths.add(met.size() - before);
                }
            }
            return widths;
        }

        Part meanShare() {
            if (shares == null) {
                shares = Part.of(0, 1);
                for (Plan plan : plans) {
                    shares = shares.plus(plan.share());
                }
            }
            return shares.by(plans.size());
        }
    }

    private static final class Model {
        final byte[][] sheets = new byte[4][];
        final Plan[] grounds = new Plan[10];
        final int[] findings = new int[6];
        int latest = 0;
        Part fraction = Part.of(0, 1);

        private byte[] sheetAt(int s) {
            finding(sheets[s] == null, 1);
            return sheets[s];
        }

        private Plan groundAt(int g) {
            finding(grounds[g] == null, 1);
            return grounds[g];
        }

        private Orbit orbitAt(int g) {
            Orbit orbit = Orbit.of(groundAt(g));
            if (orbit.spent) {
                throw new Refused(-6, 0);
            }
            return orbit;
        }

        private static boolean isNot(int number, int least, int most) {
            return number < least || number > most;
        }

        private static void badSlope(int p, int q) {
            bad(isNot(p, -50, 50) || isNot(q, 0, 50) || q == 0 && p != 1);
            bad(BigInteger.valueOf(p).gcd(BigInteger.valueOf(q)).intValue() != 1);
        }

        private static List<Integer> ways(byte[] sheet) {
            Set<Integer> met = new TreeSet<>();
            List<Integer> ways = new ArrayList<>();
            for (byte b : sheet) {
                ways.add((int) b);
                met.add((int) b);
            }
            for (int s = 0; s < sheet.length; s++) {
                if (!met.contains(s)) {
                    throw new Refused(-4, 0);
                }
            }
            return ways;
        }

        private int place(int g, int right, int up) {
            byte[] rights = sheetAt(right);
            byte[] ups = sheetAt(up);
            if (rights.length != ups.length || rights.length == 0) {
                throw new Refused(-4, 0);
            }
            Plan plan = new Plan(ways(rights), ways(ups));
            if (plan.rowFrom(0).length() != 2 * rights.length) {
                throw new Refused(-4, 0);
            }
            grounds[g] = plan;
            return plan.n();
        }

        private int lay(int s, int i, int v) {
            byte[] sheet = sheetAt(s);
            finding(isNot(i, 0, sheet.length - 1), 2);
            int was = sheet[i];
            sheet[i] = (byte) v;
            return was + 1000;
        }

        private int copy(int[] a) {
            finding(a[4] < 0, 5);
            byte[] from = sheetAt(a[0]);
            byte[] to = sheetAt(a[2]);
            finding(a[1] < 0 || a[3] < 0 || (long) a[1] + a[4] > from.length || (long) a[3] + a[4] > to.length, 2);
            byte[] taken = from.clone();
            for (int k = 0; k < a[4]; k++) {
                to[a[3] + k] = taken[a[1] + k];
            }
            return 1;
        }

        private int tell(Part part) {
            fraction = part;
            return 1;
        }

        private int set(int g, Plan plan) {
            grounds[g] = plan;
            return plan.n();
        }

        private int mark(Plan plan, int kind) {
            finding(plan.kind() != kind, 3);
            if (kind == 1) {
                return plan.ring(plan.n() - 1).size();
            }
            return kind == 2 ? plan.bends().get(0) : 2 * (plan.bends().get(0) + 1);
        }

        private int mean(Plan plan) {
            finding(plan.bends().isEmpty(), 4);
            int sum = 0;
            for (int k : plan.bends()) {
                sum += k + 1;
            }
            return sum / plan.bends().size();
        }

        private int told(Plan plan, int what) {
            return new int[] {plan.n(), plan.kind(), plan.span(), plan.corners.size(), plan.bends().size(),
                plan.selves()}[what];
        }

        private int reached(Orbit orbit, int i, int what) {
            if (isNot(i, 0, orbit.plans.size() - 1)) {
                return -9;
            }
            if (what < 2) {
                return orbit.ways.get(i)[what];
            }
            return what == 2 ? orbit.plans.get(i).selves() : orbit.plans.get(i).cylinders().size();
        }

        private int count(int what) {
            int sum = 0;
            for (byte[] sheet : sheets) {
                sum += what == 0 && sheet != null ? 1 : 0;
            }
            for (Plan plan : grounds) {
                sum += what == 0 || plan == null ? 0 : what == 1 ? 1 : plan.n();
            }
            return sum;
        }

        private long digest() {
            List<Integer> values = new ArrayList<>();
            for (Plan plan : grounds) {
                values.add(plan == null ? -1 : plan.n());
                if (plan != null) {
                    values.addAll(plan.right);
                    values.addAll(plan.up);
                }
            }
            for (byte[] sheet : sheets) {
                values.add(sheet == null ? -1 : sheet.length);
                for (int i = 0; sheet != null && i < sheet.length; i++) {
                    values.add((int) sheet[i]);
                }
            }
            long h = 17;
            for (int v : values) {
                h = 31 * h + v;
            }
            return h;
        }

        private long answer(String call, int[] a) {
            switch (call) {
                case "sheet":
                    bad(isNot(a[0], 0, 3) || a[1] > 8);
                    finding(a[1] < 0, 5);
                    sheets[a[0]] = new byte[a[1]];
                    return a[1];
                case "lay":
                    bad(isNot(a[0], 0, 3));
                    return lay(a[0], a[1], a[2]);
                case "tear":
                    bad(isNot(a[0], 0, 3));
                    sheetAt(a[0]);
                    sheets[a[0]] = null;
                    return 1;
                case "copy":
                    bad(isNot(a[0], 0, 3) || isNot(a[2], 0, 3));
                    return copy(a);
                case "ground":
                    bad(isNot(a[0], 0, 9) || isNot(a[1], 0, 3) || isNot(a[2], 0, 3));
                    return place(a[0], a[1], a[2]);
                case "upper":
                    return fraction.over.longValueExact();
                case "lower":
                    return fraction.under.longValueExact();
                case "count":
                    bad(isNot(a[0], 0, 2));
                    return count(a[0]);
                case "finding":
                    return latest;
                case "findings":
                    bad(isNot(a[0], 1, 5));
                    return findings[a[0]];
                case "digest":
                    return digest();
                default:
                    bad(isNot(a[0], 0, 9));
                    return answerOfGround(call, a);
            }
        }

        private long answerOfGround(String call, int[] a) {
            switch (call) {
                case "drop":
                    groundAt(a[0]);
                    grounds[a[0]] = null;
                    return 1;
                case "twin":
                    bad(isNot(a[1], 0, 9));
                    return set(a[1], groundAt(a[0]));
                case "told":
                    bad(isNot(a[1], 0, 5));
                    return told(groundAt(a[0]), a[1]);
                case "mark":
                    bad(isNot(a[1], 1, 3));
                    return mark(groundAt(a[0]), a[1]);
                case "next":
                    finding(isNot(a[1], 0, groundAt(a[0]).n() - 1), 2);
                    return (a[2] % 2 == 0 ? grounds[a[0]].right : grounds[a[0]].up).get(a[1]);
                case "bend":
                    finding(isNot(a[1], 0, groundAt(a[0]).n() - 1), 2);
                    return grounds[a[0]].bend(a[1]);
                case "name":
                    finding(isNot(a[1], 0, 2 * groundAt(a[0]).n() - 1), 2);
                    return grounds[a[0]].nameOf().charAt(a[1]) - '0';
                case "alike":
                    bad(isNot(a[1], 0, 9));
                    return groundAt(a[0]).nameOf().equals(groundAt(a[1]).nameOf()) ? 1 : 0;
                case "mean":
                    return mean(groundAt(a[0]));
                case "shear":
                    bad(isNot(a[1], -100, 100));
                    return set(a[0], groundAt(a[0]).sheared(a[1]));
                case "turn":
                    return set(a[0], groundAt(a[0]).turned());
                case "see":
                    badSlope(a[1], a[2]);
                    return set(a[0], groundAt(a[0]).seen(a[1], a[2]));
                case "cylinders":
                    badSlope(a[1], a[2]);
                    return groundAt(a[0]).seen(a[1], a[2]).cylinders().size();
                case "cylinder":
                    bad(isNot(a[2], 0, 2));
                    List<int[]> list = groundAt(a[0]).cylinders();
                    return isNot(a[1], 0, list.size() - 1) ? -9 : list.get(a[1])[a[2]];
                case "share":
                    return tell(groundAt(a[0]).share());
                default:
                    return answerOfReach(call, a);
            }
        }

        private long answerOfReach(String call, int[] a) {
            switch (call) {
                case "reach":
                    return orbitAt(a[0]).plans.size();
                case "reached":
                    bad(isNot(a[2], 0, 3));
                    return reached(orbitAt(a[0]), a[1], a[2]);
                case "cusps":
                    return orbitAt(a[0]).widths().size();
                case "width":
                    List<Integer> widths = orbitAt(a[0]).widths();
                    return isNot(a[1], 0, widths.size() - 1) ? -9 : widths.get(a[1]);
                case "meanShare":
                    return tell(orbitAt(a[0]).meanShare());
                case "twist":
                    return tell(orbitAt(a[0]).meanShare().plus(groundAt(a[0]).bendSum()));
                case "comes":
                    bad(isNot(a[1], 0, 9));
                    String name = groundAt(a[1]).nameOf();
                    return orbitAt(a[0]).numbers.getOrDefault(name, -9);
                default:
                    throw new IllegalStateException(call);
            }
        }

        long call(String call, int[] a) {
            try {
                return answer(call, a);
            } catch (Refused refused) {
                if (refused.answer == -3) {
                    latest = refused.finding;
                    findings[latest]++;
                }
                return refused.answer;
            }
        }
    }

    private static long ask(SquareGrounds x, String call, int[] a) {
        switch (call) {
            case "sheet": return x.sheet(a[0], a[1]);
            case "lay": return x.lay(a[0], a[1], a[2]);
            case "tear": return x.tear(a[0]);
            case "copy": return x.copy(a[0], a[1], a[2], a[3], a[4]);
            case "ground": return x.ground(a[0], a[1], a[2]);
            case "drop": return x.drop(a[0]);
            case "twin": return x.twin(a[0], a[1]);
            case "told": return x.told(a[0], a[1]);
            case "mark": return x.mark(a[0], a[1]);
            case "next": return x.next(a[0], a[1], a[2] % 2 != 0);
            case "bend": return x.bend(a[0], a[1]);
            case "name": return x.name(a[0], a[1]);
            case "alike": return x.alike(a[0], a[1]);
            case "mean": return x.mean(a[0]);
            case "shear": return x.shear(a[0], a[1]);
            case "turn": return x.turn(a[0]);
            case "see": return x.see(a[0], a[1], a[2]);
            case "cylinders": return x.cylinders(a[0], a[1], a[2]);
            case "cylinder": return x.cylinder(a[0], a[1], a[2]);
            case "share": return x.share(a[0]);
            case "reach": return x.reach(a[0]);
            case "reached": return x.reached(a[0], a[1], a[2]);
            case "cusps": return x.cusps(a[0]);
            case "width": return x.width(a[0], a[1]);
            case "meanShare": return x.meanShare(a[0]);
            case "twist": return x.twist(a[0]);
            case "comes": return x.comes(a[0], a[1]);
            case "upper": return x.upper();
            case "lower": return x.lower();
            case "count": return x.count(a[0]);
            case "finding": return x.finding();
            case "findings": return x.findings(a[0]);
            case "digest": return x.digest();
            default: throw new IllegalStateException(call);
        }
    }

    private static final class Run {
        private static final String[] CALLS_OF_GROUND = {"drop", "twin", "told", "mark", "next", "bend", "name",
            "alike", "mean", "shear", "turn", "see", "cylinders", "cylinder", "share", "reach", "reached", "cusps",
            "width", "meanShare", "twist", "comes"};
        private static final String[] CALLS_OF_SHEET = {"sheet", "lay", "tear", "copy", "ground"};

        private final int number;
        private final Random random;
        private final SquareGrounds x = new SquareGrounds();
        private final Model model = new Model();
        private final List<String> told = new ArrayList<>();
        private int calls = 0;

        Run(int number) {
            this.number = number;
            this.random = new Random(7919L * number + 17);
        }

        void play() {
            while (calls < CALLS && wrong < 20) {
                int kind = random.nextInt(20);
                if (kind == 0) {
                    layGround();
                } else if (kind < 3) {
                    either(CALLS_OF_SHEET, 4);
                } else if (kind < 4) {
                    call("findings", pick(7) - 1);
                    call("count", pick(5) - 1);
                    call("digest");
                } else {
                    either(CALLS_OF_GROUND, 10);
                }
            }
        }

        private int pick(int below) {
            return random.nextInt(40) == 0 ? ODD_NUMBERS[random.nextInt(ODD_NUMBERS.length)] : random.nextInt(below);
        }

        private void either(String[] names, int places) {
            String name = names[random.nextInt(names.length)];
            if ((name.equals("drop") || name.equals("tear")) && random.nextInt(3) > 0) {
                return;
            }
            call(name, argumentsOf(name, places));
            if (name.equals("share") || name.equals("meanShare") || name.equals("twist")) {
                call("upper");
                call("lower");
            }
            call("finding");
        }

        private int[] argumentsOf(String name, int places) {
            switch (name) {
                case "copy":
                    return new int[] {pick(4), pick(5), pick(4), pick(5), pick(5)};
                case "ground":
                    return new int[] {pick(10), pick(4), pick(4)};
                case "twin":
                case "alike":
                case "comes":
                    return new int[] {pick(10), pick(10)};
                case "shear":
                    return new int[] {pick(10), pick(202) - 101};
                case "see":
                case "cylinders":
                    return random.nextInt(8) == 0 ? new int[] {pick(10), 1 - pick(3), pick(3) - 1}
                        : new int[] {pick(10), pick(103) - 51, pick(52)};
                case "reached":
                    return new int[] {pick(10), random.nextInt(3) == 0 ? pick(500) : pick(12), pick(4)};
                case "width":
                    return new int[] {pick(10), random.nextInt(3) == 0 ? pick(60) : pick(4)};
                case "cylinder":
                    return new int[] {pick(10), pick(4), pick(3)};
                case "name":
                    return new int[] {pick(10), pick(17)};
                case "told":
                    return new int[] {pick(10), pick(6)};
                case "lay":
                    return new int[] {pick(4), pick(9), random.nextInt(4) == 0 ? random.nextInt() : random.nextInt(9)};
                case "sheet":
                    return new int[] {pick(4), pick(10)};
                default:
                    return new int[] {pick(places), pick(9), random.nextInt(2)};
            }
        }

        private void layGround() {
            int n = 1 + random.nextInt(8);
            int s = random.nextInt(4);
            for (int sheet : new int[] {s, (s + 1) % 4}) {
                call("sheet", sheet, n);
                List<Integer> ways = new ArrayList<>();
                for (int i = 0; i < n; i++) {
                    ways.add(random.nextInt(i + 1), i);
                }
                boolean staysCloseToFlat = random.nextBoolean();
                for (int i = 0; i < n; i++) {
                    call("lay", sheet, i, staysCloseToFlat ? (i + 1) % n : ways.get(i));
                }
            }
            call("ground", random.nextInt(10), s, (s + 1) % 4);
        }

        private void call(String name, int... a) {
            if (calls >= CALLS) {
                return;
            }
            calls++;
            long want = model.call(name, a);
            long got = ask(x, name, a);
            String text = name + java.util.Arrays.toString(a) + " " + want;
            told.add(text);
            answered.merge(name + (want < 0 ? " " + want : " +"), 1, Integer::sum);
            if (got != want) {
                wrong++;
                System.out.println("run " + number + ", call " + calls + ": " + text + " is due, answered is " + got);
                System.out.println("    after " + told.subList(Math.max(0, told.size() - 12), told.size() - 1));
            }
        }
    }
}
