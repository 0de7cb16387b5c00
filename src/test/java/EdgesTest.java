import java.lang.reflect.InvocationTargetException;
import java.lang.reflect.Method;
import java.math.BigInteger;
import java.util.Arrays;

/**
 * One test for each sentence of the document that names a boundary case: the least, the most, empty, full, cut to a
 * size, over itself, refused. Each begins with edge(), which has the promise and its words, and with a new object.
 * Calls are written as text, so that what is told of a fault is what was called.
 */
public final class EdgesTest {
    private static final int BAD = -1, FINDING = -3, STATE = -4, SPENT = -6, NONE = -9;
    private static final int NOTHING = 1, BEYOND = 2, UNLIKE = 3, NOUGHT = 4, SIZE = 5;
    private static final int TERMS = 0, PROMISES = 34;
    private static final int LOWEST = Integer.MIN_VALUE, HIGHEST = Integer.MAX_VALUE;
    // What later calls answer is free.
    private static final int MOST_CALLS = 512;
    // All tests take two seconds: what is not answered by then is taken for a call that does not end.
    private static final long MOST_MILLISECONDS = 60_000;

    private static final int[] NO_SHEET = {-1, 4, 5, 10, 256, 65536, LOWEST, HIGHEST};
    private static final int[] NO_GROUND = {-1, 10, 11, 256, 65536, LOWEST, HIGHEST};
    private static final int[] BELOW_NOUGHT = {-1, -2, -9, -256, LOWEST};

    // RIGHT and UP, a digit for each SQUARE.
    private static final String[] ONE = {"0", "0"};
    private static final String[] ELL = {"102", "210"};
    private static final String[] ROW = {"1230", "0123"};
    private static final String[] BLOCK = {"1032", "2301"};
    private static final String[] TWO_ALIKE = {"1032", "0321"};
    private static final String[] LONG_ROW = {"12345670", "01234567"};
    private static final String[] TOWER = {"01234567", "12345670"};
    // CORNERS 0 2 and 1 3 5 4.
    private static final String[] TWO_UNLIKE = {"513024", "042513"};
    // CORNERS 0 5 2, 1 3 and 4 6.
    private static final String[] THREE_BEND = {"3421560", "6204513"};
    // CORNERS 0 2, 1 3, 4 6 and 5 7: the units 1, i, -1, -i, j, -k, -j, k, RIGHT times i, UP times j.
    private static final String[] FOUR_BEND = {"12305674", "47652103"};
    // One CORNER of all seven.
    private static final String[] MOST_BENT = {"1204356", "3150624"};
    // CORNERS 0 6 4 2 and 1 3 5 7.
    private static final String[] MOST_ALIKE = {"34567012", "10325476"};
    // No GROUND has more than 480 and fewer than 540 in REACH: so says a count of all 39391 NAMES.
    private static final String[] JUST_WITHIN = {"02135674", "12345760"};
    private static final String[] JUST_SPENT = {"02354617", "10463752"};
    // 4320 in REACH: no GROUND has more.
    private static final String[] FAR_SPENT = {"02134675", "13456027"};

    private static SquareGrounds x;
    private static volatile String called;
    private static volatile boolean ended = false;
    private static int calls;
    private static int promise;
    private static String words;
    private static long[] known;
    private static int edges = 0;
    private static final boolean[] tested = new boolean[PROMISES + 1];
    private static int wrong = 0;

    private EdgesTest() {
    }

    public static void main(String[] args) throws InterruptedException {
        Thread tests = new Thread(EdgesTest::all);
        tests.setDaemon(true);
        tests.start();
        tests.join(MOST_MILLISECONDS);
        if (!ended) {
            fault("came no further than " + called);
        }
        System.out.println(wrong == 0 ? edges + " edges hold" : wrong + " answers are not as due");
        if (wrong != 0) {
            System.exit(1);
        }
    }

    private static void all() {
        Sheets.all();
        Grounds.all();
        Facts.all();
        Ways.all();
        Cylinders.all();
        Reaches.all();
        Told.all();
        Terms.all();
        demandAllPromises();
        ended = true;
    }

    private static void demandAllPromises() {
        for (promise = TERMS; promise <= PROMISES; promise++) {
            words = "at least one test";
            if (!tested[promise]) {
                fault("there is none");
            }
        }
    }

    // ---- what the tests are written with

    private static void edge(int ofPromise, String itsWords) {
        promise = ofPromise;
        words = itsWords;
        tested[ofPromise] = true;
        edges++;
        renew();
    }

    private static void renew() {
        x = new SquareGrounds();
        calls = 0;
        known = null;
    }

    private static void fault(String told) {
        wrong++;
        if (wrong <= 100) {
            System.out.println((promise == TERMS ? "terms" : "promise " + promise) + ", \"" + words + "\": " + told);
        }
    }

    private static int number(String told) {
        switch (told) {
            case "LOWEST":
                return LOWEST;
            case "HIGHEST":
                return HIGHEST;
            default:
                return Integer.parseInt(told);
        }
    }

    private static Object[] arguments(String told) {
        String[] parts = told.isEmpty() ? new String[0] : told.split(", *");
        Object[] values = new Object[parts.length];
        for (int i = 0; i < parts.length; i++) {
            boolean isNumber = !parts[i].equals("true") && !parts[i].equals("false");
            values[i] = isNumber ? (Object) number(parts[i]) : (Object) parts[i].equals("true");
        }
        return values;
    }

    private static Method method(String name) {
        for (Method method : SquareGrounds.class.getMethods()) {
            if (method.getName().equals(name) && method.getDeclaringClass() == SquareGrounds.class) {
                return method;
            }
        }
        throw new IllegalStateException("the class has no " + name);
    }

    private static long ask(String call) {
        calls++;
        called = call;
        if (calls == MOST_CALLS + 1) {
            fault("the test itself calls more often than the document has answers for");
        }
        int open = call.indexOf('(');
        try {
            Object answer = method(call.substring(0, open))
                .invoke(x, arguments(call.substring(open + 1, call.length() - 1)));
            return ((Number) answer).longValue();
        } catch (InvocationTargetException thrown) {
            fault(call + " threw " + thrown.getCause());
            return Long.MIN_VALUE;
        } catch (IllegalAccessException | IllegalArgumentException not) {
            throw new IllegalStateException(call, not);
        }
    }

    private static long does(String call) {
        known = null;
        return ask(call);
    }

    private static void is(String call, long want) {
        long got = does(call);
        if (got != want) {
            fault(call + " answered " + got + ", due is " + want);
        }
    }

    /** All that an object tells of itself: digest(), upper(), lower(), finding(), findings(1 .. 5). */
    private static long[] state() {
        return new long[] {ask("digest()"), ask("upper()"), ask("lower()"), ask("finding()"), ask("findings(1)"),
            ask("findings(2)"), ask("findings(3)"), ask("findings(4)"), ask("findings(5)")};
    }

    /** What is refused changes nothing but finding(), findings(), and these by a FINDING alone. */
    private static void changesNothing(String call, long want, int finding) {
        long[] due = known == null ? state() : known;
        long got = ask(call);
        if (got != want) {
            fault(call + " answered " + got + ", due is " + want);
        }
        if (finding != 0) {
            due[3] = finding;
            due[3 + finding]++;
        }
        known = state();
        if (!Arrays.equals(known, due)) {
            fault(call + " left " + Arrays.toString(known) + ", due is " + Arrays.toString(due));
        }
    }

    private static void refuses(String call, int answer) {
        changesNothing(call, answer, 0);
    }

    private static void finds(String call, int finding) {
        changesNothing(call, FINDING, finding);
    }

    private static void only(String call, long answer) {
        changesNothing(call, answer, 0);
    }

    private static void tells(String call, long upper, long lower) {
        is(call, 1);
        is("upper()", upper);
        is("lower()", lower);
    }

    private static String with(String call, int number) {
        return call.replace("#", String.valueOf(number));
    }

    private static void row(int s, String digits) {
        is("sheet(" + s + ", " + digits.length() + ")", digits.length());
        for (int i = 0; i < digits.length(); i++) {
            if (digits.charAt(i) != '0') {
                is("lay(" + s + ", " + i + ", " + digits.charAt(i) + ")", 1000);
            }
        }
    }

    private static void rows(String[] ground) {
        row(0, ground[0]);
        row(1, ground[1]);
    }

    private static void make(int g, String... ground) {
        rows(ground);
        is("ground(" + g + ", 0, 1)", ground[0].length());
    }

    private static void laid(int g, String right, String up) {
        is("told(" + g + ", 0)", right.length());
        for (int s = 0; s < right.length(); s++) {
            is("next(" + g + ", " + s + ", false)", right.charAt(s) - '0');
            is("next(" + g + ", " + s + ", true)", up.charAt(s) - '0');
        }
    }

    /** A SHEET has these bytes and no more. */
    private static void bytes(int s, int... values) {
        for (int i = 0; i < values.length; i++) {
            is("lay(" + s + ", " + i + ", " + values[i] + ")", 1000 + values[i]);
        }
        finds("lay(" + s + ", " + values.length + ", 1)", BEYOND);
    }

    /** Each GROUND from 0 to 9 is there, one SQUARE each. */
    private static void fillGrounds() {
        make(0, ONE);
        for (int g = 1; g < 10; g++) {
            is("twin(0, " + g + ")", 1);
        }
    }

    private static void badGround(int ofPromise, String call) {
        edge(ofPromise, "BAD: a GROUND is 0 .. 9, in " + call);
        for (int g : NO_GROUND) {
            refuses(with(call, g), BAD);
        }
        fillGrounds();
        for (int g : NO_GROUND) {
            refuses(with(call, g), BAD);
        }
    }

    private static void missingGround(int ofPromise, String call) {
        edge(ofPromise, "NOTHING: a GROUND that is missing, in " + call);
        for (int g = 0; g < 10; g++) {
            finds(with(call, g), NOTHING);
        }
        fillGrounds();
        for (int g = 0; g < 10; g++) {
            is("drop(" + g + ")", 1);
            finds(with(call, g), NOTHING);
            is("twin(" + (9 - g) + ", " + g + ")", 1);
        }
    }

    /** Of one that is ONE, all others missing, from the first number to the last. */
    private static void eachGround(int ofPromise, String call, int answer) {
        edge(ofPromise, "GROUNDS 0 .. 9, the first and the last too, in " + call);
        for (int g = 0; g < 10; g++) {
            renew();
            make(g, ONE);
            is(with(call, g), answer);
        }
    }

    private static void groundNumbers(int ofPromise, String call, int answerOfOne) {
        badGround(ofPromise, call);
        missingGround(ofPromise, call);
        eachGround(ofPromise, call, answerOfOne);
    }

    private static int divisor(int a, int b) {
        return b == 0 ? Math.abs(a) : divisor(b, a % b);
    }

    // ---- the order of what is refused, and what holds for all calls

    private static final class Terms {
        static void all() {
            order();
            findings();
            fractions();
            anyNumbers();
        }

        private static void order() {
            edge(TERMS, "Refused is, the first of these that fits: BAD ahead of FINDING");
            refuses("sheet(4, -1)", BAD);
            refuses("sheet(-1, -1)", BAD);
            refuses("lay(4, -1, 0)", BAD);
            refuses("copy(4, 0, 0, 0, -1)", BAD);
            refuses("copy(0, 0, 4, 0, -1)", BAD);
            refuses("ground(10, 0, 1)", BAD);
            refuses("ground(0, 4, 1)", BAD);
            refuses("ground(0, 0, 4)", BAD);
            refuses("twin(0, 10)", BAD);
            refuses("told(0, 6)", BAD);
            refuses("mark(0, 0)", BAD);
            refuses("next(10, -1, true)", BAD);
            refuses("bend(10, -1)", BAD);
            refuses("name(10, -1)", BAD);
            refuses("alike(0, 10)", BAD);
            refuses("alike(10, 0)", BAD);
            refuses("shear(0, 101)", BAD);
            refuses("see(0, 2, 2)", BAD);
            refuses("cylinders(0, 2, 2)", BAD);
            refuses("cylinder(0, 0, 3)", BAD);
            refuses("reached(0, 0, 4)", BAD);
            refuses("comes(0, 10)", BAD);
            refuses("comes(10, 0)", BAD);

            edge(TERMS, "Refused is, the first of these that fits: BAD ahead of STATE");
            is("sheet(0, 0)", 0);
            refuses("ground(0, 0, 0)", STATE);
            refuses("ground(10, 0, 0)", BAD);

            edge(TERMS, "Refused is, the first of these that fits: BAD ahead of SPENT");
            make(0, JUST_SPENT);
            refuses("reached(0, 0, 4)", BAD);
            refuses("reached(0, 0, -1)", BAD);
            refuses("comes(0, 10)", BAD);
            refuses("comes(0, -1)", BAD);

            edge(TERMS, "unless a call says so otherwise: NOTHING ahead of STATE, as ground() has them");
            is("sheet(0, 0)", 0);
            finds("ground(0, 0, 1)", NOTHING);
            finds("ground(0, 1, 0)", NOTHING);
            row(0, "11");
            finds("ground(0, 0, 1)", NOTHING);
            finds("ground(0, 1, 0)", NOTHING);

            edge(TERMS, "unless a call says so otherwise: NOTHING ahead of SPENT, as comes() has them");
            make(0, JUST_SPENT);
            finds("comes(0, 1)", NOTHING);
            finds("comes(1, 0)", NOTHING);
        }

        private static void findings() {
            edge(TERMS, "FINDINGS: 1 NOTHING, 2 BEYOND, 3 UNLIKE, 4 NOUGHT, 5 SIZE");
            make(0, ROW);
            finds("tear(3)", 1);
            finds("bend(0, 4)", 2);
            finds("mark(0, 2)", 3);
            finds("mean(0)", 4);
            finds("sheet(3, -1)", 5);
            finds("drop(9)", 1);

            edge(TERMS, "What is refused changes nothing but finding(), findings(): what was told last stays");
            make(0, ELL);
            make(1, JUST_SPENT);
            tells("share(0)", 3, 2);
            finds("share(9)", NOTHING);
            refuses("share(10)", BAD);
            finds("meanShare(9)", NOTHING);
            refuses("meanShare(1)", SPENT);
            refuses("meanShare(-1)", BAD);
            finds("twist(9)", NOTHING);
            refuses("twist(1)", SPENT);
            refuses("twist(10)", BAD);
        }

        private static void fractions() {
            edge(TERMS, "Fractions are told in lowest terms");
            make(0, "10325476", "23456701");
            tells("share(0)", 2, 1);
            make(0, BLOCK);
            tells("share(0)", 1, 1);
            make(0, FOUR_BEND);
            tells("share(0)", 1, 2);
        }

        /** A new object, or one that has all of it and a GROUND of each sort. */
        private static void begin(boolean full) {
            renew();
            if (full) {
                make(5, JUST_SPENT);
                make(1, MOST_BENT);
                make(9, ONE);
                make(0, ELL);
                is("sheet(2, 0)", 0);
                is("sheet(3, 8)", 8);
            }
        }

        private static void anyNumbers() {
            edge(TERMS, "a number that is none: every call answers, whatever its numbers are");
            int[] numbers = {0, 1, 3, 5, 8, 9, -1, 10, 50, -51, 100, 256, LOWEST, HIGHEST};
            int[] few = {0, 1, 3, 8, -1, LOWEST, HIGHEST};
            for (Method method : SquareGrounds.class.getDeclaredMethods()) {
                if (java.lang.reflect.Modifier.isPublic(method.getModifiers())) {
                    sweep(method, method.getParameterCount() > 3 ? few : numbers, true);
                    sweep(method, few, false);
                }
            }
        }

        private static void sweep(Method method, int[] numbers, boolean full) {
            int places = method.getParameterCount();
            int many = (int) Math.pow(numbers.length, places);
            begin(full);
            for (int at = 0; at < many; at++) {
                if (calls >= MOST_CALLS - 2) {
                    begin(full);
                }
                StringBuilder call = new StringBuilder(method.getName()).append("(");
                for (int place = 0, rest = at; place < places; place++, rest /= numbers.length) {
                    int number = numbers[rest % numbers.length];
                    boolean way = method.getParameterTypes()[place] == boolean.class;
                    call.append(place == 0 ? "" : ", ").append(way ? String.valueOf(number % 2 == 0) : number);
                }
                long answer = does(call.append(")").toString());
                boolean known = answer >= 0 || answer == BAD || answer == FINDING || answer == STATE
                    || answer == SPENT || answer == NONE || method.getReturnType() == long.class;
                if (!known) {
                    fault(call + " answered " + answer);
                }
            }
        }
    }

    // ---- promises 1 to 5

    private static final class Sheets {
        static void all() {
            newObject();
            sheet();
            sheetRefused();
            lay();
            layRefused();
            tear();
            copy();
            copyRefused();
        }

        private static void newObject() {
            edge(1, "No SHEETS");
            is("count(0)", 0);
            for (int s = 0; s < 4; s++) {
                finds("tear(" + s + ")", NOTHING);
            }

            edge(1, "No GROUNDS");
            is("count(1)", 0);
            is("count(2)", 0);
            for (int g = 0; g < 10; g++) {
                finds("drop(" + g + ")", NOTHING);
            }

            edge(1, "A new object has nothing of one that was made ahead of it");
            make(0, ELL);
            tells("share(0)", 3, 2);
            finds("drop(9)", NOTHING);
            renew();
            is("count(0)", 0);
            is("count(1)", 0);
            is("count(2)", 0);
            is("upper()", 0);
            is("lower()", 1);
            is("finding()", 0);
            is("findings(1)", 0);
        }

        private static void sheet() {
            edge(2, "A SHEET is there with n bytes 0: none, and each n to 8");
            for (int s = 0; s < 4; s++) {
                for (int n = 0; n <= 8; n++) {
                    renew();
                    is("sheet(" + s + ", " + n + ")", n);
                    is("count(0)", 1);
                    for (int i = 0; i < n; i++) {
                        is("lay(" + s + ", " + i + ", 0)", 1000);
                    }
                    finds("lay(" + s + ", " + n + ", 1)", BEYOND);
                }
            }

            edge(2, "A SHEET is there with n bytes 0: empty is not missing");
            is("sheet(2, 0)", 0);
            is("count(0)", 1);
            is("tear(2)", 1);

            edge(2, "A SHEET is there with n bytes 0: one that was there has nothing left of its bytes");
            for (int n = 0; n <= 8; n++) {
                renew();
                row(1, "12345678");
                is("sheet(1, " + n + ")", n);
                is("count(0)", 1);
                bytes(1, new int[n]);
                is("sheet(1, 8)", 8);
                bytes(1, new int[8]);
            }

            edge(2, "A SHEET is there with n bytes 0: the others stay");
            row(0, "12");
            row(2, "345");
            row(3, "6");
            is("sheet(1, 8)", 8);
            bytes(0, 1, 2);
            bytes(2, 3, 4, 5);
            bytes(3, 6);
        }

        private static void sheetRefused() {
            edge(2, "BAD: a SHEET is 0 .. 3");
            for (int s : NO_SHEET) {
                refuses("sheet(" + s + ", 1)", BAD);
            }

            edge(2, "BAD: also n above 8");
            row(0, "12");
            for (int n : new int[] {9, 10, 16, 128, 256, 264, 65544, HIGHEST}) {
                refuses("sheet(0, " + n + ")", BAD);
                refuses("sheet(1, " + n + ")", BAD);
            }
            bytes(0, 1, 2);
            is("count(0)", 1);

            edge(2, "SIZE: fewer than none");
            row(0, "12");
            for (int n : BELOW_NOUGHT) {
                finds("sheet(0, " + n + ")", SIZE);
                finds("sheet(1, " + n + ")", SIZE);
            }
            bytes(0, 1, 2);
            is("count(0)", 1);
        }

        private static void lay() {
            edge(3, "Byte i of a SHEET is v, cut to a byte: what it was, and 1000 more");
            is("sheet(0, 1)", 1);
            int[][] cuts = {{127, 127}, {128, -128}, {129, -127}, {255, -1}, {256, 0}, {257, 1}, {383, 127}, {384, -128},
                {-1, -1}, {-128, -128}, {-129, 127}, {-255, 1}, {-256, 0}, {-257, -1}, {65535, -1}, {65536, 0},
                {1000, -24}, {LOWEST, 0}, {LOWEST + 128, -128}, {HIGHEST, -1}, {HIGHEST - 128, 127}, {0, 0}};
            int before = 0;
            for (int[] cut : cuts) {
                is("lay(0, 0, " + cut[0] + ")", 1000 + before);
                before = cut[1];
            }

            edge(3, "Byte i of a SHEET: the first, the last, no other");
            for (int s = 0; s < 4; s++) {
                is("sheet(" + s + ", 8)", 8);
                is("lay(" + s + ", 0, 5)", 1000);
                is("lay(" + s + ", 7, 6)", 1000);
            }
            for (int s = 0; s < 4; s++) {
                bytes(s, 5, 0, 0, 0, 0, 0, 0, 6);
            }
        }

        private static void layRefused() {
            edge(3, "BAD: a SHEET is 0 .. 3");
            for (int s : NO_SHEET) {
                refuses("lay(" + s + ", 0, 1)", BAD);
            }

            edge(3, "NOTHING: a SHEET that is missing");
            for (int s = 0; s < 4; s++) {
                finds("lay(" + s + ", 0, 1)", NOTHING);
            }
            row(2, "12");
            is("tear(2)", 1);
            finds("lay(2, 0, 1)", NOTHING);

            edge(3, "BAD; NOTHING; BEYOND: in this order");
            finds("lay(1, -1, 1)", NOTHING);
            finds("lay(1, 8, 1)", NOTHING);
            refuses("lay(4, 8, 1)", BAD);

            edge(3, "BEYOND: a place that there is not");
            for (int n = 0; n <= 8; n++) {
                renew();
                is("sheet(2, " + n + ")", n);
                for (int i : new int[] {n, n + 1, 8, 9, 256, 65536, -1, -8, -256, LOWEST, HIGHEST}) {
                    finds("lay(2, " + i + ", 1)", BEYOND);
                }
            }
        }

        private static void tear() {
            edge(4, "A SHEET is missing: 1");
            for (int s = 0; s < 4; s++) {
                renew();
                for (int each = 0; each < 4; each++) {
                    is("sheet(" + each + ", " + 2 * each + ")", 2 * each);
                }
                is("tear(" + s + ")", 1);
                is("count(0)", 3);
                finds("lay(" + s + ", 0, 1)", NOTHING);
            }

            edge(4, "A SHEET is missing: also one without bytes");
            is("sheet(3, 0)", 0);
            is("tear(3)", 1);
            is("count(0)", 0);

            edge(4, "A SHEET is missing: the GROUNDS that came of it stay");
            make(0, ELL);
            is("tear(0)", 1);
            is("tear(1)", 1);
            laid(0, ELL[0], ELL[1]);

            edge(4, "A SHEET is missing: nothing of it is there when there is one again");
            row(0, "12345678");
            is("tear(0)", 1);
            is("sheet(0, 8)", 8);
            bytes(0, new int[8]);

            edge(4, "BAD: a SHEET is 0 .. 3");
            for (int s : NO_SHEET) {
                refuses("tear(" + s + ")", BAD);
            }

            edge(4, "NOTHING: a SHEET that is missing, at first or again");
            for (int s = 0; s < 4; s++) {
                finds("tear(" + s + ")", NOTHING);
                is("sheet(" + s + ", 1)", 1);
                is("tear(" + s + ")", 1);
                finds("tear(" + s + ")", NOTHING);
            }
        }

        private static void copy() {
            edge(5, "n bytes come to those of another one: all, from one end to the other");
            row(0, "12345678");
            is("sheet(3, 8)", 8);
            is("copy(0, 0, 3, 0, 8)", 1);
            bytes(3, 1, 2, 3, 4, 5, 6, 7, 8);
            bytes(0, 1, 2, 3, 4, 5, 6, 7, 8);

            edge(5, "n bytes come to those of another one: the last to the first, the first to the last");
            row(0, "12345678");
            is("sheet(3, 4)", 4);
            is("copy(0, 7, 3, 0, 1)", 1);
            is("copy(0, 0, 3, 3, 1)", 1);
            bytes(3, 8, 0, 0, 1);

            edge(5, "n bytes: none changes nothing");
            row(0, "12345678");
            row(1, "1234");
            is("sheet(2, 0)", 0);
            only("copy(0, 0, 1, 0, 0)", 1);
            only("copy(0, 8, 1, 4, 0)", 1);
            only("copy(2, 0, 0, 8, 0)", 1);
            only("copy(0, 8, 2, 0, 0)", 1);
            only("copy(2, 0, 2, 0, 0)", 1);

            edge(5, "another one (perhaps itself), as if taken ahead: up");
            row(0, "12345678");
            is("copy(0, 0, 0, 1, 7)", 1);
            bytes(0, 1, 1, 2, 3, 4, 5, 6, 7);
            row(0, "12345678");
            is("copy(0, 1, 0, 3, 5)", 1);
            bytes(0, 1, 2, 3, 2, 3, 4, 5, 6);

            edge(5, "another one (perhaps itself), as if taken ahead: down");
            row(0, "12345678");
            is("copy(0, 1, 0, 0, 7)", 1);
            bytes(0, 2, 3, 4, 5, 6, 7, 8, 8);
            row(0, "12345678");
            is("copy(0, 3, 0, 1, 5)", 1);
            bytes(0, 1, 4, 5, 6, 7, 8, 7, 8);

            edge(5, "another one (perhaps itself), as if taken ahead: to where they are");
            row(0, "12345678");
            only("copy(0, 0, 0, 0, 8)", 1);
            only("copy(0, 3, 0, 3, 4)", 1);
        }

        private static void copyRefused() {
            edge(5, "BAD: each SHEET is 0 .. 3");
            row(0, "12");
            for (int s : NO_SHEET) {
                refuses("copy(" + s + ", 0, 0, 0, 1)", BAD);
                refuses("copy(0, 0, " + s + ", 0, 1)", BAD);
            }

            edge(5, "SIZE: n below 0");
            row(0, "12");
            row(1, "34");
            for (int n : BELOW_NOUGHT) {
                finds("copy(0, 0, 1, 0, " + n + ")", SIZE);
                finds("copy(0, 2, 1, 2, " + n + ")", SIZE);
            }

            edge(5, "NOTHING: either");
            row(0, "12");
            finds("copy(0, 0, 1, 0, 1)", NOTHING);
            finds("copy(1, 0, 0, 0, 1)", NOTHING);
            finds("copy(1, 0, 2, 0, 1)", NOTHING);
            finds("copy(3, 0, 3, 0, 0)", NOTHING);
            finds("copy(0, 0, 3, 0, 0)", NOTHING);

            edge(5, "BAD; SIZE; NOTHING; BEYOND: in this order");
            row(0, "12");
            refuses("copy(4, 0, 0, 0, -1)", BAD);
            refuses("copy(0, 0, -1, 0, -1)", BAD);
            finds("copy(1, 0, 0, 0, -1)", SIZE);
            finds("copy(0, 9, 0, 9, -1)", SIZE);
            finds("copy(1, 0, 0, 9, 9)", NOTHING);
            finds("copy(0, 9, 1, 0, 9)", NOTHING);

            edge(5, "BEYOND: not so many there, in the one that they come from");
            row(0, "1234");
            is("sheet(1, 8)", 8);
            for (int i = 0; i <= 4; i++) {
                finds("copy(0, " + i + ", 1, 0, " + (5 - i) + ")", BEYOND);
            }
            for (int i : new int[] {5, 8, 256, -1, -4, LOWEST, HIGHEST}) {
                finds("copy(0, " + i + ", 1, 0, 0)", BEYOND);
                finds("copy(0, " + i + ", 1, 0, 1)", BEYOND);
            }

            edge(5, "BEYOND: not so many there, in the one that they come to");
            row(0, "12345678");
            is("sheet(1, 4)", 4);
            for (int j = 0; j <= 4; j++) {
                finds("copy(0, 0, 1, " + j + ", " + (5 - j) + ")", BEYOND);
            }
            for (int j : new int[] {5, 8, 256, -1, -4, LOWEST, HIGHEST}) {
                finds("copy(0, 0, 1, " + j + ", 0)", BEYOND);
                finds("copy(0, 0, 1, " + j + ", 1)", BEYOND);
            }

            edge(5, "BEYOND: not so many there, though a sum of two numbers may wrap around");
            row(0, "12345678");
            finds("copy(0, 1, 0, 0, HIGHEST)", BEYOND);
            finds("copy(0, 0, 0, 1, HIGHEST)", BEYOND);
            finds("copy(0, HIGHEST, 0, 0, 1)", BEYOND);
            finds("copy(0, 0, 0, HIGHEST, 1)", BEYOND);
            finds("copy(0, HIGHEST, 0, HIGHEST, HIGHEST)", BEYOND);
            finds("copy(0, LOWEST, 0, 0, HIGHEST)", BEYOND);
            finds("copy(0, 0, 0, LOWEST, HIGHEST)", BEYOND);
        }
    }

    // ---- promises 6 to 8

    private static final class Grounds {
        static void all() {
            ground();
            notAsLong();
            notEachOnce();
            notTogether();
            groundRefused();
            drop();
            twin();
        }

        private static void ground() {
            edge(6, "A GROUND of what two SHEETS tell: n 1 .. 8");
            for (int n = 1; n <= 8; n++) {
                renew();
                String ring = "12345678".substring(0, n - 1) + "0";
                String still = "01234567".substring(0, n);
                make(9, ring, still);
                laid(9, ring, still);
                is("count(2)", n);
                make(9, still, ring);
                laid(9, still, ring);
            }

            edge(6, "A GROUND (anew, if it is there): nothing is left of a longer one");
            make(0, LONG_ROW);
            make(0, ELL);
            laid(0, ELL[0], ELL[1]);
            finds("next(0, 3, true)", BEYOND);
            is("count(1)", 1);
            is("count(2)", 3);

            edge(6, "A GROUND of what two SHEETS tell: one SHEET may tell both");
            row(3, "120");
            is("ground(4, 3, 3)", 3);
            laid(4, "120", "120");

            edge(6, "A GROUND of what two SHEETS tell: what they tell later is not of it");
            make(0, ELL);
            is("lay(0, 0, 2)", 1001);
            is("lay(1, 0, 0)", 1002);
            laid(0, ELL[0], ELL[1]);
            is("sheet(0, 0)", 0);
            laid(0, ELL[0], ELL[1]);

            edge(6, "A GROUND of what two SHEETS tell: the SHEETS stay as they are");
            make(0, ELL);
            bytes(0, 1, 0, 2);
            bytes(1, 2, 1, 0);
            is("count(0)", 2);

            edge(6, "RIGHT and UP are told by the bytes, as they were cut");
            is("sheet(0, 2)", 2);
            is("lay(0, 0, 257)", 1000);
            is("lay(0, 1, -256)", 1000);
            is("ground(0, 0, 0)", 2);
            laid(0, "10", "10");

            eachGround(6, "told(#, 0)", 1);
        }

        private static void refusedState(String right, String up) {
            row(0, right);
            row(1, up);
            refuses("ground(0, 0, 1)", STATE);
        }

        private static void notAsLong() {
            edge(6, "STATE: not as long");
            make(0, ELL);
            refusedState("120", "1230");
            refusedState("1230", "120");
            refusedState("0", "12345670");
            refusedState("12345670", "0");
            refusedState("1230", "012");
            refusedState("012", "1230");

            edge(6, "STATE: without bytes");
            make(0, ELL);
            refusedState("", "");
            refusedState("", "0");
            refusedState("0", "");
            row(2, "");
            refuses("ground(1, 2, 2)", STATE);
            laid(0, ELL[0], ELL[1]);
            is("count(1)", 1);
        }

        private static void notEachOnce() {
            edge(6, "STATE: not each SQUARE once in each: one is there twice");
            refusedState("110", "120");
            refusedState("120", "110");
            refusedState("00", "10");
            refusedState("10", "11");
            refusedState("12345677", "01234567");
            refusedState("12345670", "00234567");
            is("count(1)", 0);

            edge(6, "STATE: not each SQUARE once in each: one that there is not");
            refusedState("1", "0");
            refusedState("0", "1");
            refusedState("123", "120");
            refusedState("120", "123");
            refusedState("12345678", "12345670");
            refusedState("12345670", "12345678");
            is("count(1)", 0);

            edge(6, "STATE: not each SQUARE once in each: a byte below 0, or far above");
            for (int v : new int[] {-128, -64, -32, -31, -8, -1, 1, 8, 16, 32, 64, 96, 127}) {
                renew();
                rows(ONE);
                is("lay(0, 0, " + v + ")", 1000);
                refuses("ground(0, 0, 1)", STATE);
                refuses("ground(0, 1, 0)", STATE);
                rows(LONG_ROW);
                is("lay(0, 7, " + (v == 1 ? 9 : v) + ")", 1000);
                refuses("ground(0, 0, 1)", STATE);
                refuses("ground(0, 1, 0)", STATE);
            }
        }

        private static void notTogether() {
            edge(6, "STATE: not all hang together: each alone");
            refusedState("01", "01");
            refusedState("01234567", "01234567");

            edge(6, "STATE: not all hang together: one alone, the first or the last");
            refusedState("021", "021");
            refusedState("102", "102");
            refusedState("02345671", "01234567");
            refusedState("01234567", "12345607");
            refusedState("12345607", "01234567");

            edge(6, "STATE: not all hang together: two halves");
            refusedState("1032", "1032");
            refusedState("10325476", "32107654");
            refusedState("23456701", "45670123");
            is("count(1)", 0);

            edge(6, "all hang together: by RIGHT alone, by UP alone, by both in turn, from either end");
            make(0, LONG_ROW);
            make(0, TOWER);
            make(0, "70123456", "01234567");
            make(0, "01234567", "70123456");
            make(0, "10325476", "02143657");
            make(0, "02143657", "10325476");
            make(0, "01325476", "70214365");
            is("count(2)", 8);
        }

        private static void groundRefused() {
            edge(6, "BAD: a GROUND is 0 .. 9, each SHEET 0 .. 3");
            rows(ELL);
            for (int g : NO_GROUND) {
                refuses("ground(" + g + ", 0, 1)", BAD);
            }
            for (int s : NO_SHEET) {
                refuses("ground(0, " + s + ", 1)", BAD);
                refuses("ground(0, 0, " + s + ")", BAD);
            }

            edge(6, "NOTHING: a SHEET");
            rows(ELL);
            finds("ground(0, 0, 2)", NOTHING);
            finds("ground(0, 3, 1)", NOTHING);
            finds("ground(0, 2, 3)", NOTHING);
            finds("ground(0, 2, 2)", NOTHING);
            is("ground(0, 0, 1)", 3);
            is("tear(1)", 1);
            finds("ground(0, 0, 1)", NOTHING);
            laid(0, ELL[0], ELL[1]);
        }

        private static void drop() {
            edge(7, "A GROUND is missing: 1");
            fillGrounds();
            for (int g = 0; g < 10; g++) {
                is("drop(" + g + ")", 1);
                is("count(1)", 9 - g);
                finds("told(" + g + ", 0)", NOTHING);
            }

            edge(7, "A GROUND is missing: nothing of it is there when there is one again");
            make(0, LONG_ROW);
            is("drop(0)", 1);
            make(0, ONE);
            laid(0, ONE[0], ONE[1]);
            finds("next(0, 1, true)", BEYOND);

            edge(7, "NOTHING: again");
            make(0, ONE);
            is("drop(0)", 1);
            finds("drop(0)", NOTHING);

            groundNumbers(7, "drop(#)", 1);
        }

        private static void twin() {
            edge(8, "GROUND to is (anew) as a GROUND is: over a longer one, over a shorter one");
            make(0, LONG_ROW);
            make(1, ELL);
            make(2, ONE);
            is("twin(1, 0)", 3);
            laid(0, ELL[0], ELL[1]);
            finds("next(0, 3, false)", BEYOND);
            is("twin(1, 2)", 3);
            laid(2, ELL[0], ELL[1]);
            is("count(2)", 9);

            edge(8, "GROUND to is as a GROUND is: itself");
            make(9, ELL);
            only("twin(9, 9)", 3);
            laid(9, ELL[0], ELL[1]);

            edge(8, "GROUND to is as a GROUND is: what becomes of one later is not of the other");
            make(0, ELL);
            is("twin(0, 9)", 3);
            is("shear(0, 1)", 3);
            laid(9, ELL[0], ELL[1]);
            is("shear(0, -1)", 3);
            is("turn(9)", 3);
            laid(0, ELL[0], ELL[1]);
            is("drop(9)", 1);
            laid(0, ELL[0], ELL[1]);

            edge(8, "GROUND to is as a GROUND is: its LEFT and DOWN too");
            make(0, "1203", "1230");
            is("twin(0, 1)", 4);
            is("turn(1)", 4);
            laid(1, "3012", "1203");
            is("turn(1)", 4);
            laid(1, "2013", "3012");

            edge(8, "NOTHING: to stays, there or missing");
            make(1, ELL);
            finds("twin(0, 1)", NOTHING);
            finds("twin(0, 2)", NOTHING);
            laid(1, ELL[0], ELL[1]);
            is("count(1)", 1);

            edge(8, "BAD: to is 0 .. 9");
            make(0, ELL);
            for (int to : NO_GROUND) {
                refuses("twin(0, " + to + ")", BAD);
                refuses("twin(1, " + to + ")", BAD);
            }

            groundNumbers(8, "twin(#, 5)", 1);
            edge(8, "GROUND to: the first and the last too");
            make(4, ELL);
            for (int to = 0; to < 10; to++) {
                is("twin(4, " + to + ")", 3);
                laid(to, ELL[0], ELL[1]);
            }
        }
    }

    // ---- promises 9 to 15

    private static final class Facts {
        static void all() {
            told();
            mark();
            markRefused();
            next();
            bend();
            name();
            names();
            alike();
            mean();
        }

        private static void isTold(String[] ground, int... facts) {
            make(0, ground);
            for (int what = 0; what < facts.length; what++) {
                is("told(0, " + what + ")", facts[what]);
            }
        }

        private static void told() {
            edge(9, "EVEN: without a CORNER that bends; one SQUARE, and eight");
            isTold(ONE, 1, 1, 1, 1, 0, 1);
            isTold(LONG_ROW, 8, 1, 1, 8, 0, 8);
            isTold(TOWER, 8, 1, 1, 8, 0, 8);
            isTold(BLOCK, 4, 1, 1, 4, 0, 4);

            edge(9, "SINGLE: one CORNER that bends; the least BEND, and the most");
            isTold(ELL, 3, 2, 2, 1, 1, 1);
            isTold(new String[] {"12345670", "10234567"}, 8, 2, 2, 6, 1, 1);
            isTold(MOST_BENT, 7, 2, 4, 1, 1, 1);

            edge(9, "TWIN: two that bend alike, no others; the least BENDS, and the most");
            isTold(TWO_ALIKE, 4, 3, 2, 2, 2, 2);
            isTold(new String[] {"12345670", "21034567"}, 8, 3, 2, 6, 2, 1);
            isTold(MOST_ALIKE, 8, 3, 4, 2, 2, 4);

            edge(9, "KIND 0: two that bend, not alike");
            isTold(TWO_UNLIKE, 6, 0, 3, 2, 2, 1);
            isTold(JUST_WITHIN, 8, 0, 4, 2, 2, 1);

            edge(9, "KIND 0: more than two that bend, though two of them, or all, bend alike");
            isTold(THREE_BEND, 7, 0, 3, 3, 3, 1);
            isTold(FOUR_BEND, 8, 0, 3, 4, 4, 8);

            edge(9, "KIND, SPAN, CORNERS: of what the GROUND is now, whatever was asked for ahead of it");
            isTold(MOST_BENT, 7, 2, 4, 1, 1, 1);
            isTold(TWO_ALIKE, 4, 3, 2, 2, 2, 2);
            isTold(FOUR_BEND, 8, 0, 3, 4, 4, 8);
            isTold(ELL, 3, 2, 2, 1, 1, 1);
            isTold(ONE, 1, 1, 1, 1, 0, 1);

            edge(9, "SELVES: counted once for each SQUARE, from one to all");
            isTold(new String[] {"023145", "104523"}, 6, 3, 3, 2, 2, 3);
            isTold(new String[] {"104523", "230154"}, 6, 3, 3, 2, 2, 6);

            edge(9, "BAD: what is 0 .. 5");
            make(0, ELL);
            for (int what : new int[] {-1, 6, 7, 256, 260, LOWEST, HIGHEST}) {
                refuses("told(0, " + what + ")", BAD);
                refuses("told(1, " + what + ")", BAD);
            }

            for (int what = 0; what < 6; what++) {
                groundNumbers(9, "told(#, " + what + ")", what == 4 ? 0 : 1);
            }
        }

        private static void mark() {
            edge(10, "an EVEN one how many SQUARES a RING of it has: from one to eight");
            make(0, ONE);
            is("mark(0, 1)", 1);
            make(0, TOWER);
            is("mark(0, 1)", 1);
            make(0, BLOCK);
            is("mark(0, 1)", 2);
            make(0, "12305674", "45670123");
            is("mark(0, 1)", 4);
            make(0, LONG_ROW);
            is("mark(0, 1)", 8);

            edge(10, "a SINGLE one the BEND of that CORNER: the least and the most");
            make(0, ELL);
            is("mark(0, 2)", 2);
            make(0, "12345670", "10234567");
            is("mark(0, 2)", 2);
            make(0, MOST_BENT);
            is("mark(0, 2)", 6);

            edge(10, "a TWIN one how many SQUARES both CORNERS have together: the least and the most");
            make(0, TWO_ALIKE);
            is("mark(0, 3)", 4);
            make(0, "12345670", "21034567");
            is("mark(0, 3)", 4);
            make(0, MOST_ALIKE);
            is("mark(0, 3)", 8);
        }

        private static void markRefused() {
            edge(10, "UNLIKE: a GROUND of another KIND");
            make(0, ROW);
            finds("mark(0, 2)", UNLIKE);
            finds("mark(0, 3)", UNLIKE);
            make(0, ELL);
            finds("mark(0, 1)", UNLIKE);
            finds("mark(0, 3)", UNLIKE);
            make(0, TWO_ALIKE);
            finds("mark(0, 1)", UNLIKE);
            finds("mark(0, 2)", UNLIKE);

            edge(10, "UNLIKE: a GROUND that is of none of them");
            for (String[] ground : new String[][] {TWO_UNLIKE, THREE_BEND, FOUR_BEND}) {
                make(0, ground);
                for (int kind = 1; kind <= 3; kind++) {
                    finds("mark(0, " + kind + ")", UNLIKE);
                }
            }

            edge(10, "BAD: also KIND 0");
            make(0, ELL);
            refuses("mark(0, 0)", BAD);
            refuses("mark(1, 0)", BAD);
            make(0, FOUR_BEND);
            refuses("mark(0, 0)", BAD);

            edge(10, "BAD: there is no such KIND");
            make(0, ELL);
            for (int kind : new int[] {-1, 4, 5, 256, 258, LOWEST, HIGHEST}) {
                refuses("mark(0, " + kind + ")", BAD);
                refuses("mark(1, " + kind + ")", BAD);
            }

            groundNumbers(10, "mark(#, 1)", 1);
            missingGround(10, "mark(#, 2)");
            missingGround(10, "mark(#, 3)");
        }

        private static void beyondSquares(String call) {
            for (String[] ground : new String[][] {ONE, ELL, LONG_ROW}) {
                renew();
                make(0, LONG_ROW);
                make(0, ground);
                int n = ground[0].length();
                for (int square : new int[] {n, n + 1, 8, 9, 256, 65536, -1, -8, -256, LOWEST, HIGHEST}) {
                    finds(with(call, square), BEYOND);
                }
            }
        }

        private static void next() {
            edge(11, "The SQUARE RIGHT (up: UP) of a SQUARE: the first, the last");
            make(0, "12345670", "70123456");
            is("next(0, 0, false)", 1);
            is("next(0, 7, false)", 0);
            is("next(0, 0, true)", 7);
            is("next(0, 7, true)", 6);
            make(0, ONE);
            is("next(0, 0, false)", 0);
            is("next(0, 0, true)", 0);

            edge(11, "BEYOND: no such SQUARE");
            beyondSquares("next(0, #, true)");
            beyondSquares("next(0, #, false)");

            edge(11, "BAD; NOTHING; BEYOND: in this order");
            finds("next(0, -1, true)", NOTHING);
            finds("next(0, 8, false)", NOTHING);
            refuses("next(10, 8, true)", BAD);

            groundNumbers(11, "next(#, 0, true)", 0);
            groundNumbers(11, "next(#, 0, false)", 0);
        }

        private static void bend() {
            edge(12, "The BEND of the upper right CORNER of a SQUARE: 0 of a FLAT one");
            make(0, ONE);
            is("bend(0, 0)", 0);
            make(0, LONG_ROW);
            for (int s = 0; s < 8; s++) {
                is("bend(0, " + s + ")", 0);
            }

            edge(12, "The BEND of the upper right CORNER of a SQUARE: some bend, some are FLAT");
            // RIGHT, UP, LEFT, DOWN lead from 0 to 1 to 3 and back to 0; from 2 to itself.
            make(0, "1230", "1023");
            is("bend(0, 0)", 2);
            is("bend(0, 1)", 2);
            is("bend(0, 2)", 0);
            is("bend(0, 3)", 2);

            edge(12, "The BEND of the upper right CORNER of a SQUARE: two CORNERS, each its own");
            make(0, TWO_UNLIKE);
            int[] bends = {1, 3, 1, 3, 3, 3};
            for (int s = 0; s < 6; s++) {
                is("bend(0, " + s + ")", bends[s]);
            }

            edge(12, "The BEND of the upper right CORNER of a SQUARE: the most");
            make(0, MOST_BENT);
            for (int s = 0; s < 7; s++) {
                is("bend(0, " + s + ")", 6);
            }

            edge(12, "BEYOND: no such SQUARE");
            beyondSquares("bend(0, #)");

            edge(12, "BAD; NOTHING; BEYOND: in this order");
            finds("bend(0, -1)", NOTHING);
            finds("bend(0, 8)", NOTHING);
            refuses("bend(10, 8)", BAD);

            groundNumbers(12, "bend(#, 0)", 0);
        }

        private static void nameIs(String[] ground, String name) {
            make(0, ground);
            for (int i = 0; i < name.length(); i++) {
                is("name(0, " + i + ")", name.charAt(i) - '0');
            }
        }

        private static void name() {
            edge(13, "Place i (0 .. 2 n - 1) of THE NAME: the first, the last, of one SQUARE and of eight");
            nameIs(ONE, "00");
            nameIs(LONG_ROW, "1234567001234567");
            nameIs(TOWER, "0123456712345670");

            edge(13, "BEYOND: a place that there is not");
            for (String[] ground : new String[][] {ONE, ELL, LONG_ROW}) {
                renew();
                make(0, LONG_ROW);
                make(0, ground);
                int places = 2 * ground[0].length();
                for (int i : new int[] {places, places + 1, 16, 17, 256, 65536, -1, -2, -16, LOWEST, HIGHEST}) {
                    finds("name(0, " + i + ")", BEYOND);
                }
            }

            edge(13, "BAD; NOTHING; BEYOND: in this order");
            finds("name(0, -1)", NOTHING);
            finds("name(0, 16)", NOTHING);
            refuses("name(10, 16)", BAD);

            groundNumbers(13, "name(#, 1)", 0);
        }

        private static void names() {
            edge(13, "THE NAME: the least of the rows from all SQUARES, the last SQUARE's too");
            // From 0: 0 1, RIGHT leads back; UP of 0 is 2: 102 210. From 1: 0 1 2: 102 021. From 2: 021 102.
            nameIs(ELL, "021102");

            edge(13, "THE NAME: the least of the rows from all SQUARES, the first SQUARE's too");
            nameIs(new String[] {"021", "102"}, "021102");

            edge(13, "THE NAME: the least (place by place): a place counts ahead of all behind it");
            // From 0 102 021, from 1 102 210, from 2 021 102.
            nameIs(new String[] {"102", "021"}, "021102");

            edge(13, "THE NAME: the least (place by place): rows that differ in UP alone");
            // From 0 1230 1023, from 1 1302 and more, from 2 1230 0132, from 3 1230 0213.
            nameIs(new String[] {"1230", "1023"}, "12300132");

            edge(13, "NUMBERED: RIGHT of it, then UP of it gets the next number");
            // From 0: RIGHT of 0 is 2, so that is 1; UP of 0 is 1, so that is 2.
            nameIs(new String[] {"201", "120"}, "120201");
        }

        private static void alike() {
            edge(14, "ALIKE: itself, and however its SQUARES are numbered: 1");
            make(0, ELL);
            make(1, "210", "021");
            make(2, "021", "102");
            for (int g = 0; g < 3; g++) {
                for (int h = 0; h < 3; h++) {
                    is("alike(" + g + ", " + h + ")", 1);
                }
            }

            edge(14, "ALIKE: with the same n and NAME: another n, 0");
            make(0, ONE);
            make(1, ROW);
            make(2, LONG_ROW);
            is("alike(0, 1)", 0);
            is("alike(1, 0)", 0);
            is("alike(1, 2)", 0);
            is("alike(2, 0)", 0);

            edge(14, "ALIKE: with the same n and NAME: another NAME, 0");
            make(0, LONG_ROW);
            make(1, TOWER);
            make(2, "12345670", "10234567");
            make(3, "12345670", "21034567");
            is("alike(0, 1)", 0);
            is("alike(0, 2)", 0);
            is("alike(2, 3)", 0);
            is("alike(3, 2)", 0);

            edge(14, "BAD: either");
            make(0, ELL);
            for (int g : NO_GROUND) {
                refuses("alike(0, " + g + ")", BAD);
                refuses("alike(1, " + g + ")", BAD);
                refuses("alike(" + g + ", 1)", BAD);
            }

            edge(14, "NOTHING: either, one FINDING though both are missing");
            make(0, ELL);
            finds("alike(0, 9)", NOTHING);
            finds("alike(9, 0)", NOTHING);
            finds("alike(9, 9)", NOTHING);
            finds("alike(8, 9)", NOTHING);

            edge(14, "GROUNDS 0 .. 9, the first and the last too");
            fillGrounds();
            for (int g = 0; g < 10; g++) {
                is("alike(" + g + ", " + (9 - g) + ")", 1);
            }
            badGround(14, "alike(#, 0)");
            missingGround(14, "alike(#, 0)");
            missingGround(14, "alike(9, #)");
        }

        private static void mean() {
            edge(15, "The mean number of SQUARES of CORNERS that bend: FLAT ones are not counted");
            make(0, "12345670", "10234567");
            is("mean(0)", 3);
            make(0, "12345670", "21034567");
            is("mean(0)", 2);

            edge(15, "The mean number of SQUARES of CORNERS that bend: the least and the most");
            make(0, TWO_ALIKE);
            is("mean(0)", 2);
            make(0, FOUR_BEND);
            is("mean(0)", 2);
            make(0, MOST_BENT);
            is("mean(0)", 7);

            edge(15, "cut: 7 by 3 is 2, 6 by 2 is 3");
            make(0, THREE_BEND);
            is("mean(0)", 2);
            make(0, TWO_UNLIKE);
            is("mean(0)", 3);

            edge(15, "NOUGHT: none bends");
            for (String[] ground : new String[][] {ONE, ROW, BLOCK, LONG_ROW, TOWER}) {
                make(0, ground);
                finds("mean(0)", NOUGHT);
            }

            groundNumbers(15, "mean(#)", FINDING);
        }
    }

    // ---- promises 16 to 18

    private static final class Ways {
        static void all() {
            shear();
            turn();
            see();
            seen();
            slopes();
        }

        // RINGS of 3 and 5: a SHEAR comes back after 15.
        private static final String RINGS = "12045673", OVER = "31204567";

        /** UP after so many SHEARS: UP of the SQUARE that lies so far LEFT. */
        private static String upAfter(int times) {
            StringBuilder up = new StringBuilder();
            for (int s = 0; s < 8; s++) {
                int least = s < 3 ? 0 : 3;
                int length = s < 3 ? 3 : 5;
                up.append(OVER.charAt(least + Math.floorMod(s - least - times, length)));
            }
            return up.toString();
        }

        private static void shear() {
            edge(16, "SHEAR of a GROUND, k times (- 100 .. 100; below 0: undone so often): n");
            for (int k = -100; k <= 100; k++) {
                renew();
                make(0, RINGS, OVER);
                is("shear(0, " + k + ")", 8);
                laid(0, RINGS, upAfter(k));
                is("shear(0, " + -k + ")", 8);
                laid(0, RINGS, OVER);
            }

            edge(16, "k times: 0 changes nothing");
            make(0, RINGS, OVER);
            only("shear(0, 0)", 8);

            edge(16, "SHEAR of a GROUND: of that one alone, one SQUARE too");
            make(0, ELL);
            make(1, ELL);
            make(2, ONE);
            is("shear(1, 1)", 3);
            laid(0, ELL[0], ELL[1]);
            laid(1, "102", "120");
            is("shear(2, 100)", 1);
            laid(2, "0", "0");

            edge(16, "SHEAR: LEFT and DOWN go with it");
            make(0, "1203", "3120");
            is("shear(0, 1)", 4);
            laid(0, "1203", "2310");
            is("turn(0)", 4);
            // DOWN of 2310 is 3201.
            laid(0, "3201", "1203");

            edge(16, "BAD: k is - 100 .. 100");
            make(0, ELL);
            for (int k : new int[] {101, -101, 102, -102, 200, 256, -256, 65536, LOWEST, HIGHEST}) {
                refuses("shear(0, " + k + ")", BAD);
                refuses("shear(1, " + k + ")", BAD);
            }

            groundNumbers(16, "shear(#, 1)", 1);
            missingGround(16, "shear(#, 0)");
        }

        /** GROUNDS 0 and 1 have as many SQUARES of each BEND. */
        private static void sameBends(int n) {
            long[] bends = new long[n];
            long[] others = new long[n];
            for (int s = 0; s < n; s++) {
                bends[s] = does("bend(0, " + s + ")");
                others[s] = does("bend(1, " + s + ")");
            }
            Arrays.sort(bends);
            Arrays.sort(others);
            if (!Arrays.equals(bends, others)) {
                fault(called + " and others: " + Arrays.toString(others) + ", due is " + Arrays.toString(bends));
            }
        }

        private static void turn() {
            edge(17, "TURN of a GROUND: after four it is as it was");
            make(0, "1203", "1230");
            is("turn(0)", 4);
            laid(0, "3012", "1203");
            is("turn(0)", 4);
            laid(0, "2013", "3012");
            is("turn(0)", 4);
            laid(0, "1230", "2013");
            is("turn(0)", 4);
            laid(0, "1203", "1230");

            edge(17, "Both keep n, CORNERS' BENDS");
            for (String[] ground : new String[][] {ONE, ELL, TWO_ALIKE, TWO_UNLIKE, THREE_BEND, FOUR_BEND}) {
                renew();
                make(0, ground);
                is("twin(0, 1)", ground[0].length());
                for (int k = 1; k < 5; k++) {
                    is("shear(1, " + k + ")", ground[0].length());
                    is("turn(1)", ground[0].length());
                    sameBends(ground[0].length());
                }
            }

            edge(17, "TURN of a GROUND: of that one alone, one SQUARE and eight too");
            make(0, ELL);
            make(1, TOWER);
            make(2, ONE);
            is("turn(1)", 8);
            laid(1, "70123456", "01234567");
            laid(0, ELL[0], ELL[1]);
            is("turn(2)", 1);
            laid(2, "0", "0");

            groundNumbers(17, "turn(#)", 1);
        }

        private static void see() {
            edge(18, "q 0 and p 1: as it was");
            make(0, RINGS, OVER);
            only("see(0, 1, 0)", 8);

            edge(18, "as long as q is above 0: (0, 1) is a TURN undone");
            make(0, "1203", "3120");
            is("see(0, 0, 1)", 4);
            laid(0, "3120", "2013");

            edge(18, "the SHEAR is undone (p by q, cut down) times");
            make(0, "1203", "3120");
            is("see(0, 1, 1)", 4);
            // SHEAR undone: UP 1230. TURN undone: RIGHT is that, UP is LEFT.
            laid(0, "1230", "2013");

            edge(18, "as often done, if that is below 0");
            make(0, "1203", "3120");
            is("see(0, -1, 1)", 4);
            // SHEAR: UP 2310.
            laid(0, "2310", "2013");

            edge(18, "A GROUND is seen (instead of as it was): that one alone");
            make(0, ELL);
            make(1, ELL);
            is("see(1, 0, 1)", 3);
            laid(0, ELL[0], ELL[1]);
            laid(1, "210", "102");
            make(2, ONE);
            is("see(2, -50, 49)", 1);
            laid(2, "0", "0");

            groundNumbers(18, "see(#, 1, 0)", 1);
            groundNumbers(18, "see(#, -50, 1)", 1);
        }

        /** By SHEARS and TURNS, as the document tells it. */
        private static void seeByHand(int g, int p, int q) {
            while (q > 0) {
                int times = (int) Math.floor((double) p / q);
                is("shear(" + g + ", " + -times + ")", 8);
                for (int k = 0; k < 3; k++) {
                    is("turn(" + g + ")", 8);
                }
                int over = p - q * times;
                p = -q;
                q = over;
            }
        }

        private static void seen() {
            edge(18, "SLOPE (p, q; -50 .. 50 each): the least and the most");
            int[][] slopes = {{50, 1}, {-50, 1}, {1, 50}, {-1, 50}, {50, 49}, {-50, 49}, {49, 50}, {-49, 50}, {34, 21},
                {-34, 21}, {21, 34}, {-21, 34}, {49, 1}, {-49, 2}, {0, 1}, {1, 0}, {1, 1}, {-1, 1}};
            for (int[] slope : slopes) {
                renew();
                make(0, RINGS, OVER);
                is("twin(0, 1)", 8);
                seeByHand(1, slope[0], slope[1]);
                is("see(0, " + slope[0] + ", " + slope[1] + ")", 8);
                for (int s = 0; s < 8; s++) {
                    is("next(0, " + s + ", false)", does("next(1, " + s + ", false)"));
                    is("next(0, " + s + ", true)", does("next(1, " + s + ", true)"));
                }
            }

            edge(18, "SEEN in it a GROUND's RINGS go along the SLOPE, in every SLOPE that there is");
            // One RING of eight, UP three further: p RIGHT and q UP lead p + 3 q further.
            renewAsLongRow();
            for (int p = -50; p <= 50; p++) {
                for (int q = 0; q <= 50; q++) {
                    if (divisor(p, q) == 1 && (q > 0 || p == 1)) {
                        if (calls > MOST_CALLS - 3) {
                            renewAsLongRow();
                        }
                        is("twin(0, 1)", 8);
                        is("see(1, " + p + ", " + q + ")", 8);
                        is("mark(1, 1)", 8 / divisor(p + 3 * q, 8));
                    }
                }
            }
        }

        private static void renewAsLongRow() {
            renew();
            make(0, "12345670", "34567012");
        }

        private static void badSlopes(String call) {
            int[][] slopes = {{51, 1}, {-51, 1}, {1, 51}, {51, 50}, {50, 51}, {256, 1}, {257, 1}, {1, 257}, {1, 65537},
                {LOWEST, 1}, {HIGHEST, 1}, {1, HIGHEST}, {LOWEST, LOWEST}, {HIGHEST, HIGHEST}};
            bad(call, "-50 .. 50 each", slopes);
            bad(call, "also a common divisor", new int[][] {{2, 4}, {-2, 4}, {50, 50}, {-50, 50}, {50, 48}, {-50, 48},
                {49, 7}, {0, 2}, {0, 50}, {3, 3}, {2, 2}, {-2, 2}});
            bad(call, "also q below 0", new int[][] {{1, -1}, {-1, -1}, {0, -1}, {1, -50}, {50, -49}, {1, LOWEST},
                {0, LOWEST}});
            bad(call, "also q 0 with another p than 1", new int[][] {{0, 0}, {-1, 0}, {2, 0}, {50, 0}, {-50, 0},
                {LOWEST, 0}, {HIGHEST, 0}, {257, 0}});
        }

        private static void bad(String call, String what, int[][] slopes) {
            edge(call.startsWith("see") ? 18 : 19, "BAD: " + what);
            make(0, ELL);
            for (int[] slope : slopes) {
                String told = slope[0] + ", " + slope[1] + ")";
                refuses(call + "(0, " + told, BAD);
                refuses(call + "(1, " + told, BAD);
            }
        }

        private static void slopes() {
            badSlopes("see");
            badSlopes("cylinders");

            edge(18, "SLOPE (p, q), without a common divisor, q 0 and p 1, or q above 0: all others are BAD");
            for (int p = -52; p <= 52; p++) {
                for (int q = -2; q <= 52; q++) {
                    if (calls > MOST_CALLS - 2) {
                        renew();
                    }
                    boolean is = Math.abs(p) <= 50 && q >= 0 && q <= 50 && divisor(p, q) == 1 && (q > 0 || p == 1);
                    is("see(0, " + p + ", " + q + ")", is ? FINDING : BAD);
                    is("cylinders(0, " + p + ", " + q + ")", is ? FINDING : BAD);
                }
            }
        }
    }

    // ---- promises 19 to 21

    private static final class Cylinders {
        static void all() {
            cylinders();
            cylinder();
            cylinderRefused();
            share();
        }

        private static void cylinders() {
            edge(19, "How many CYLINDERS of a SLOPE: of all SLOPES");
            // Known of the L of three: one where p and q are both odd, else two.
            renew();
            make(0, ELL);
            for (int p = -50; p <= 50; p++) {
                for (int q = 0; q <= 50; q++) {
                    if (divisor(p, q) == 1 && (q > 0 || p == 1)) {
                        if (calls == MOST_CALLS) {
                            renew();
                            make(0, ELL);
                        }
                        is("cylinders(0, " + p + ", " + q + ")", (p & q & 1) == 1 ? 1 : 2);
                    }
                }
            }

            edge(19, "How many CYLINDERS of a SLOPE: the GROUND stays as it was");
            make(0, ELL);
            make(1, MOST_BENT);
            only("cylinders(0, 0, 1)", 2);
            only("cylinders(0, 50, 49)", 2);
            only("cylinders(0, -49, 47)", 1);
            only("cylinders(1, 1, 0)", 4);

            edge(19, "If none bends at all, all RINGS are of one: in each SLOPE");
            make(0, BLOCK);
            make(1, TOWER);
            make(2, ONE);
            for (int g = 0; g < 3; g++) {
                is("cylinders(" + g + ", 1, 0)", 1);
                is("cylinders(" + g + ", 0, 1)", 1);
                is("cylinders(" + g + ", -50, 49)", 1);
            }

            edge(19, "How many CYLINDERS of a SLOPE: the most");
            make(0, "02134657", "13456072");
            is("cylinders(0, 1, 0)", 6);

            groundNumbers(19, "cylinders(#, 1, 0)", 1);
            groundNumbers(19, "cylinders(#, 50, 49)", 1);
        }

        /** Rows of w, h and the least SQUARE. */
        private static void are(String[] ground, int[]... cylinders) {
            make(0, ground);
            for (int i = 0; i < cylinders.length; i++) {
                for (int what = 0; what < 3; what++) {
                    is("cylinder(0, " + i + ", " + what + ")", cylinders[i][what]);
                }
            }
            is("cylinders(0, 1, 0)", cylinders.length);
        }

        private static void cylinder() {
            edge(20, "If none bends at all, all RINGS are of one: one RING, eight, and between");
            are(ONE, new int[] {1, 1, 0});
            are(LONG_ROW, new int[] {8, 1, 0});
            are(TOWER, new int[] {1, 8, 0});
            are(new String[] {"10325476", "23456701"}, new int[] {2, 4, 0});
            are(new String[] {"12305674", "45670123"}, new int[] {4, 2, 0});

            edge(20, "a RING and that above it are of one CYLINDER, if no SQUARE of the lower one has a CORNER that bends");
            // Single SQUARES 2 .. 6 stand on SQUARE 0 of the RING 0 1.
            are(new String[] {"1023456", "2134560"}, new int[] {2, 1, 0}, new int[] {1, 5, 2});
            // Two RINGS of three, 0 1 2 and above it 3 4 5; 6 stands on SQUARE 3.
            are(new String[] {"1204536", "3456120"}, new int[] {3, 2, 0}, new int[] {1, 1, 6});

            edge(20, "In the order of the least SQUARES in them, not of what lies below");
            are(new String[] {"0123465", "5012346"}, new int[] {1, 5, 0}, new int[] {2, 1, 5});
            are(new String[] {"021", "102"}, new int[] {1, 1, 0}, new int[] {2, 1, 1});
            // 6 1 5 is the RING below, 3 0 4 that above it, and 2 stands on 3.
            are(new String[] {"4520361", "1062543"}, new int[] {3, 2, 0}, new int[] {1, 1, 2});

            edge(20, "Of lying CYLINDER i: the first, the last, when there are the most");
            are(new String[] {"02134657", "13456072"}, new int[] {1, 1, 0}, new int[] {2, 1, 1}, new int[] {1, 1, 3},
                new int[] {1, 1, 4}, new int[] {2, 1, 5}, new int[] {1, 1, 7});
            only("cylinder(0, 6, 0)", NONE);
        }

        private static void cylinderRefused() {
            edge(20, "NONE: none such");
            for (int what = 0; what < 3; what++) {
                renew();
                make(0, ELL);
                for (int i : new int[] {2, 3, 8, 9, 256, 65536, -1, -2, -256, LOWEST, HIGHEST}) {
                    only("cylinder(0, " + i + ", " + what + ")", NONE);
                }
                make(0, ONE);
                only("cylinder(0, 1, " + what + ")", NONE);
                only("cylinder(0, -1, " + what + ")", NONE);
            }

            edge(20, "BAD: what is 0 .. 2");
            make(0, ELL);
            for (int what : new int[] {-1, 3, 4, 256, 257, LOWEST, HIGHEST}) {
                refuses("cylinder(0, 0, " + what + ")", BAD);
                refuses("cylinder(0, 9, " + what + ")", BAD);
                refuses("cylinder(1, 0, " + what + ")", BAD);
            }

            edge(20, "NOTHING, though there is none such either");
            finds("cylinder(0, 8, 0)", NOTHING);
            finds("cylinder(0, -1, 2)", NOTHING);

            groundNumbers(20, "cylinder(#, 0, 0)", 1);
            groundNumbers(20, "cylinder(#, 0, 1)", 1);
            groundNumbers(20, "cylinder(#, 0, 2)", 0);
        }

        private static void share() {
            edge(21, "the sum over its CYLINDERS of h by w: the least and the most");
            make(0, LONG_ROW);
            tells("share(0)", 1, 8);
            make(0, TOWER);
            tells("share(0)", 8, 1);
            make(0, ONE);
            tells("share(0)", 1, 1);

            edge(21, "the sum over its CYLINDERS of h by w: each w from 1 to 8");
            for (int n = 1; n <= 8; n++) {
                make(0, "12345678".substring(0, n - 1) + "0", "01234567".substring(0, n));
                tells("share(0)", 1, n);
            }

            edge(21, "the sum over its CYLINDERS of h by w: several, without a common divisor");
            make(0, "12045673", "31204567");
            tells("share(0)", 8, 15);
            make(0, "1023456", "2134560");
            tells("share(0)", 11, 2);
            // 1 by 3, 1 by 2, 1, 1.
            make(0, MOST_BENT);
            tells("share(0)", 17, 6);

            groundNumbers(21, "share(#)", 1);
        }
    }

    // ---- promises 22 to 28

    private static final class Reaches {
        static void all() {
            reach();
            reached();
            reachedRefused();
            cusps();
            width();
            sums();
            comes();
            comesRefused();
        }

        private static void spent(int ofPromise, String call) {
            edge(ofPromise, "SPENT: more than 500 in REACH, in " + call);
            for (String[] ground : new String[][] {JUST_SPENT, FAR_SPENT}) {
                renew();
                make(0, ground);
                refuses(call, SPENT);
                refuses(call, SPENT);
                is("shear(0, 5)", 8);
                is("turn(0)", 8);
                refuses(call, SPENT);
            }
        }

        private static void reach() {
            edge(22, "How many REACH has: the fewest");
            make(0, ONE);
            is("reach(0)", 1);
            make(0, BLOCK);
            is("reach(0)", 1);
            make(0, FOUR_BEND);
            is("reach(0)", 1);

            edge(22, "500 at most: 480 are not SPENT, from whichever of them it begins");
            make(0, JUST_WITHIN);
            is("reach(0)", 480);
            for (int k = 0; k < 10; k++) {
                is("shear(0, " + k + ")", 8);
                is("turn(0)", 8);
                is("reach(0)", 480);
            }

            spent(22, "reach(0)");

            edge(22, "SPENT: that one alone, whichever is asked for ahead of it");
            make(0, JUST_SPENT);
            make(1, JUST_WITHIN);
            make(2, ELL);
            for (int round = 0; round < 3; round++) {
                refuses("reach(0)", SPENT);
                only("reach(1)", 480);
                refuses("reach(0)", SPENT);
                only("reach(2)", 3);
            }

            edge(22, "How many REACH has: of what the GROUND is now");
            make(0, ELL);
            is("reach(0)", 3);
            make(0, ROW);
            is("reach(0)", 6);
            make(1, ONE);
            is("twin(1, 0)", 1);
            is("reach(0)", 1);
            is("drop(0)", 1);
            finds("reach(0)", NOTHING);

            groundNumbers(22, "reach(#)", 1);
        }

        private static void ways(String right, String up, int[]... rows) {
            make(0, right, up);
            is("reach(0)", rows.length);
            for (int i = 0; i < rows.length; i++) {
                for (int what = 0; what < 4; what++) {
                    is("reached(0, " + i + ", " + what + ")", rows[i][what]);
                }
            }
        }

        private static void reached() {
            edge(23, "number 0 is it; from 0, 1, .. in turn: its SHEAR, then its TURN, gets the next number");
            ways("0", "0", new int[] {0, 0, 1, 1});
            ways("10", "01", new int[] {1, 2, 2, 1}, new int[] {0, 1, 2, 1}, new int[] {2, 0, 2, 1});
            ways("01", "10", new int[] {0, 1, 2, 1}, new int[] {2, 0, 2, 1}, new int[] {1, 2, 2, 1});
            ways("10", "10", new int[] {1, 0, 2, 1}, new int[] {0, 2, 2, 1}, new int[] {2, 1, 2, 1});
            ways("102", "210", new int[] {1, 0, 1, 2}, new int[] {0, 2, 1, 2}, new int[] {2, 1, 1, 1});

            edge(23, "number 0 is it: each of one REACH has numbers of its own");
            ways("10", "10", new int[] {1, 0, 2, 1}, new int[] {0, 2, 2, 1}, new int[] {2, 1, 2, 1});
            ways("10", "01", new int[] {1, 2, 2, 1}, new int[] {0, 1, 2, 1}, new int[] {2, 0, 2, 1});
            ways("10", "10", new int[] {1, 0, 2, 1}, new int[] {0, 2, 2, 1}, new int[] {2, 1, 2, 1});
            ways("01", "10", new int[] {0, 1, 2, 1}, new int[] {2, 0, 2, 1}, new int[] {1, 2, 2, 1});
            ways("10", "10", new int[] {1, 0, 2, 1}, new int[] {0, 2, 2, 1}, new int[] {2, 1, 2, 1});

            edge(23, "Number i of REACH: the first and the last of the most");
            make(0, JUST_WITHIN);
            is("twin(0, 1)", 8);
            is("shear(1, 1)", 8);
            is("reached(0, 0, 0)", does("comes(0, 1)"));
            is("reached(0, 0, 2)", 1);
            is("reached(0, 0, 3)", 4);
            is("reached(0, 479, 2)", 1);
            for (int what = 0; what < 4; what++) {
                long last = does("reached(0, 479, " + what + ")");
                if (last < 0 || last >= 480) {
                    fault("reached(0, 479, " + what + ") answered " + last);
                }
            }

            edge(23, "NONE: none such");
            for (int what = 0; what < 4; what++) {
                renew();
                make(0, JUST_WITHIN);
                for (int i : new int[] {480, 481, 499, 500, 501, 65536, -1, -480, LOWEST, HIGHEST}) {
                    only("reached(0, " + i + ", " + what + ")", NONE);
                }
                make(0, ONE);
                only("reached(0, 1, " + what + ")", NONE);
                only("reached(0, -1, " + what + ")", NONE);
            }
        }

        private static void reachedRefused() {
            edge(23, "BAD: what is 0 .. 3");
            make(0, ELL);
            make(1, JUST_SPENT);
            for (int what : new int[] {-1, 4, 5, 256, 258, LOWEST, HIGHEST}) {
                refuses("reached(0, 0, " + what + ")", BAD);
                refuses("reached(0, 3, " + what + ")", BAD);
                refuses("reached(1, 0, " + what + ")", BAD);
                refuses("reached(9, 0, " + what + ")", BAD);
            }

            for (int what = 0; what < 4; what++) {
                spent(23, "reached(0, 0, " + what + ")");
            }
            spent(23, "reached(0, 499, 0)");
            spent(23, "reached(0, 500, 0)");
            spent(23, "reached(0, -1, 0)");

            edge(23, "NOTHING, though there is none such either");
            finds("reached(0, -1, 0)", NOTHING);
            finds("reached(0, 500, 3)", NOTHING);

            groundNumbers(23, "reached(#, 0, 0)", 0);
            groundNumbers(23, "reached(#, 0, 1)", 0);
            groundNumbers(23, "reached(#, 0, 2)", 1);
            groundNumbers(23, "reached(#, 0, 3)", 1);
        }

        private static void cusps() {
            edge(24, "How many CUSPS: the fewest");
            make(0, ONE);
            is("cusps(0)", 1);
            make(0, FOUR_BEND);
            is("cusps(0)", 1);

            edge(24, "REACH parted in rounds by SHEARS alone");
            make(0, "10", "01");
            is("cusps(0)", 2);
            make(0, ROW);
            is("cusps(0)", 3);

            edge(24, "How many CUSPS: of the most in REACH");
            make(0, JUST_WITHIN);
            is("cusps(0)", 78);

            spent(24, "cusps(0)");
            groundNumbers(24, "cusps(#)", 1);
        }

        private static void widths(String[] ground, int... widths) {
            renew();
            make(0, ground);
            for (int i = 0; i < widths.length; i++) {
                is("width(0, " + i + ")", widths[i]);
            }
            only("width(0, " + widths.length + ")", NONE);
        }

        private static void width() {
            edge(25, "WIDTH of CUSP i (by the least number in it)");
            widths(ONE, 1);
            widths(new String[] {"10", "01"}, 2, 1);
            widths(new String[] {"01", "10"}, 1, 2);
            widths(ELL, 2, 1);
            widths(ROW, 4, 1, 1);
            // A SHEAR of the TOWER is ALIKE it; its TURN is the row of eight, with all its SHEARS: the second CUSP.
            renew();
            make(0, TOWER);
            is("width(0, 0)", 1);
            is("width(0, 1)", 8);

            edge(25, "WIDTHS of all CUSPS together are REACH, of the most in it");
            make(0, JUST_WITHIN);
            long sum = 0;
            for (int i = 0; i < 78; i++) {
                long width = does("width(0, " + i + ")");
                sum += width;
                if (width < 1) {
                    fault("width(0, " + i + ") answered " + width);
                }
            }
            if (sum != 480) {
                fault("all together " + sum + ", due is 480");
            }

            edge(25, "NONE: none such");
            make(0, JUST_WITHIN);
            for (int i : new int[] {78, 79, 480, 499, 500, 65536, -1, -78, LOWEST, HIGHEST}) {
                only("width(0, " + i + ")", NONE);
            }

            edge(25, "NOTHING, though there is none such either");
            finds("width(0, -1)", NOTHING);
            finds("width(0, 500)", NOTHING);

            spent(25, "width(0, 0)");
            spent(25, "width(0, -1)");
            spent(25, "width(0, 500)");
            groundNumbers(25, "width(#, 0)", 1);
        }

        private static void sums() {
            edge(26, "the sum of SHARES of all in REACH by how many these are: one, and the most");
            make(0, ONE);
            tells("meanShare(0)", 1, 1);
            make(0, FOUR_BEND);
            tells("meanShare(0)", 1, 2);
            make(0, ELL);
            tells("meanShare(0)", 10, 9);
            make(0, JUST_WITHIN);
            tells("meanShare(0)", 59, 45);

            edge(26, "MEAN SHARE: without a bend it is 1 by 1");
            make(0, LONG_ROW);
            tells("meanShare(0)", 1, 1);
            make(0, TOWER);
            tells("meanShare(0)", 1, 1);

            spent(26, "meanShare(0)");
            groundNumbers(26, "meanShare(#)", 1);

            edge(27, "the sum over all CORNERS of k (k + 2) by (k + 1): FLAT ones add nothing");
            make(0, ONE);
            tells("twist(0)", 1, 1);
            make(0, LONG_ROW);
            tells("twist(0)", 1, 1);
            make(0, "12345670", "10234567");
            tells("twist(0)", 4, 3);

            edge(27, "the sum over all CORNERS of k (k + 2) by (k + 1): each k from 1 to 6");
            make(0, TWO_ALIKE);
            tells("twist(0)", 3, 2);
            make(0, ELL);
            tells("twist(0)", 4, 3);
            make(0, TWO_UNLIKE);
            tells("twist(0)", 7, 4);
            make(0, JUST_WITHIN);
            tells("twist(0)", 29, 15);
            make(0, MOST_BENT);
            tells("twist(0)", 2, 1);
            make(0, MOST_ALIKE);
            tells("twist(0)", 2, 1);

            edge(27, "the sum over all CORNERS: three and four that bend");
            make(0, THREE_BEND);
            tells("twist(0)", 11, 6);
            make(0, FOUR_BEND);
            tells("twist(0)", 1, 1);

            spent(27, "twist(0)");
            groundNumbers(27, "twist(#)", 1);
        }

        private static void comes() {
            edge(28, "its number in REACH: 0 for itself and what is ALIKE it");
            make(0, ELL);
            make(9, "210", "021");
            is("comes(0, 0)", 0);
            is("comes(0, 9)", 0);
            is("comes(9, 0)", 0);
            make(1, ONE);
            is("comes(1, 1)", 0);

            edge(28, "its number in REACH: the last");
            make(0, ELL);
            is("twin(0, 1)", 3);
            is("shear(1, 1)", 3);
            is("comes(0, 1)", 1);
            is("turn(1)", 3);
            is("comes(0, 1)", 2);
            make(0, "01", "10");
            make(1, "10", "10");
            is("comes(0, 1)", 2);

            edge(28, "NONE: not, one of another n");
            make(0, ROW);
            make(1, LONG_ROW);
            make(2, ONE);
            only("comes(0, 1)", NONE);
            only("comes(1, 0)", NONE);
            only("comes(0, 2)", NONE);
            only("comes(2, 0)", NONE);

            edge(28, "NONE: not, one of the same n");
            make(0, ROW);
            make(1, BLOCK);
            make(2, TWO_ALIKE);
            only("comes(0, 1)", NONE);
            only("comes(1, 0)", NONE);
            only("comes(1, 2)", NONE);

            edge(28, "its number in REACH: both stay as they are");
            make(0, JUST_WITHIN);
            is("twin(0, 1)", 8);
            only("comes(0, 1)", 0);
        }

        private static void comesRefused() {
            edge(28, "BAD: either");
            make(0, ELL);
            make(1, JUST_SPENT);
            for (int g : NO_GROUND) {
                refuses("comes(0, " + g + ")", BAD);
                refuses("comes(1, " + g + ")", BAD);
                refuses("comes(9, " + g + ")", BAD);
                refuses("comes(" + g + ", 9)", BAD);
            }

            edge(28, "NOTHING: either, one FINDING though both are missing");
            make(0, ELL);
            finds("comes(0, 9)", NOTHING);
            finds("comes(9, 0)", NOTHING);
            finds("comes(9, 9)", NOTHING);
            finds("comes(8, 9)", NOTHING);

            edge(28, "SPENT: of the one that comes, not of the other one");
            make(0, ELL);
            make(1, JUST_SPENT);
            only("comes(0, 1)", NONE);
            refuses("comes(1, 0)", SPENT);
            make(2, JUST_WITHIN);
            only("comes(2, 1)", NONE);
            refuses("comes(1, 2)", SPENT);

            spent(28, "comes(0, 0)");
            groundNumbers(28, "comes(#, #)", 0);
            missingGround(28, "comes(9, #)");
        }
    }

    // ---- promises 29 to 34

    private static final class Told {
        static void all() {
            fraction(29, "upper()", new long[] {0, 3, 10, 4});
            fraction(30, "lower()", new long[] {1, 2, 9, 3});
            count();
            finding();
            findings();
            digest();
        }

        /** Before, and of SHARE, MEAN SHARE and TWIST SUM of the L. */
        private static void fraction(int ofPromise, String call, long[] told) {
            edge(ofPromise, call + " before any of them answered");
            is(call, told[0]);
            make(0, JUST_SPENT);
            is("share(10)", BAD);
            is("share(9)", FINDING);
            is("meanShare(0)", SPENT);
            is("twist(0)", SPENT);
            is("twist(9)", FINDING);
            is(call, told[0]);

            edge(ofPromise, call + " of what answered 1 last");
            make(0, ELL);
            make(1, JUST_SPENT);
            String[] tellers = {"share", "meanShare", "twist"};
            for (int i = 0; i < 3; i++) {
                is(tellers[i] + "(0)", 1);
                is(call, told[i + 1]);
                is("share(-1)", BAD);
                is("share(9)", FINDING);
                is("meanShare(9)", FINDING);
                is("meanShare(1)", SPENT);
                is("twist(1)", SPENT);
                is(call, told[i + 1]);
            }

            edge(ofPromise, call + " stays, whatever else is called");
            make(0, ELL);
            is("share(0)", 1);
            is("shear(0, 1)", 3);
            is("turn(0)", 3);
            is("reach(0)", 3);
            is("cusps(0)", 2);
            is("comes(0, 0)", 0);
            is("cylinders(0, 1, 0)", 1);
            is("drop(0)", 1);
            is(call, told[1]);
        }

        private static void count() {
            edge(31, "0 SHEETS that are there: from none to all, empty ones too");
            for (int s = 0; s < 4; s++) {
                is("count(0)", s);
                is("sheet(" + s + ", 0)", 0);
            }
            is("count(0)", 4);
            is("sheet(2, 8)", 8);
            is("count(0)", 4);
            for (int s = 0; s < 4; s++) {
                is("tear(" + s + ")", 1);
                is("count(0)", 3 - s);
            }

            edge(31, "1 GROUNDS: from none to all");
            make(0, ELL);
            for (int g = 1; g < 10; g++) {
                is("count(1)", g);
                is("twin(0, " + g + ")", 3);
            }
            is("count(1)", 10);
            is("twin(0, 9)", 3);
            is("count(1)", 10);
            for (int g = 0; g < 10; g++) {
                is("drop(" + g + ")", 1);
                is("count(1)", 9 - g);
            }

            edge(31, "2 SQUARES in all: from none to 80");
            is("count(2)", 0);
            make(0, LONG_ROW);
            for (int g = 1; g < 10; g++) {
                is("count(2)", 8 * g);
                is("twin(0, " + g + ")", 8);
            }
            is("count(2)", 80);
            make(4, ONE);
            is("count(2)", 73);
            is("drop(4)", 1);
            is("count(2)", 72);

            edge(31, "BAD: what is 0 .. 2");
            for (int what : new int[] {-1, 3, 4, 256, LOWEST, HIGHEST}) {
                refuses("count(" + what + ")", BAD);
            }
        }

        private static void finding() {
            edge(32, "0 before any: BAD, STATE, SPENT and NONE are no FINDINGS");
            is("finding()", 0);
            make(0, JUST_SPENT);
            make(1, ONE);
            is("sheet(4, 1)", BAD);
            is("sheet(0, 0)", 0);
            is("ground(0, 0, 0)", STATE);
            is("reach(0)", SPENT);
            is("cylinder(1, 1, 0)", NONE);
            is("finding()", 0);

            edge(32, "The latest FINDING: whatever is answered since");
            is("tear(0)", FINDING);
            is("sheet(0, -1)", FINDING);
            is("finding()", SIZE);
            make(0, ONE);
            is("sheet(4, 1)", BAD);
            is("told(0, 0)", 1);
            is("cylinder(0, 1, 0)", NONE);
            is("finding()", SIZE);
            is("finding()", SIZE);
            is("tear(3)", FINDING);
            is("finding()", NOTHING);
        }

        private static void findings() {
            edge(33, "How often a FINDING (1 .. 5) was answered: none at first");
            for (int f = 1; f <= 5; f++) {
                is("findings(" + f + ")", 0);
            }

            edge(33, "How often a FINDING (1 .. 5) was answered: each by itself");
            make(0, ROW);
            String[] calls = {"tear(3)", "bend(0, 4)", "mark(0, 2)", "mean(0)", "sheet(0, -1)"};
            for (int f = 1; f <= 5; f++) {
                for (int times = 1; times <= f; times++) {
                    finds(calls[f - 1], f);
                }
            }
            for (int f = 1; f <= 5; f++) {
                is("findings(" + f + ")", f);
            }

            edge(33, "How often a FINDING was answered: as often as calls may be");
            for (int k = 0; k < MOST_CALLS - 1; k++) {
                is("drop(0)", FINDING);
            }
            is("findings(1)", MOST_CALLS - 1);

            edge(33, "BAD: a FINDING is 1 .. 5");
            finds("tear(0)", NOTHING);
            for (int f : new int[] {0, 6, -1, 7, 256, 257, LOWEST, HIGHEST}) {
                refuses("findings(" + f + ")", BAD);
            }
        }

        private static void digestIs(int... values) {
            BigInteger h = BigInteger.valueOf(17);
            for (int v : values) {
                h = h.multiply(BigInteger.valueOf(31)).add(BigInteger.valueOf(v));
            }
            is("digest()", h.longValue());
        }

        private static void digest() {
            edge(34, "-1: missing, each GROUND and each SHEET");
            digestIs(-1, -1, -1, -1, -1, -1, -1, -1, -1, -1, -1, -1, -1, -1);

            edge(34, "of each SHEET its size and bytes: 0 without bytes, bytes below 0 as they are");
            is("sheet(0, 0)", 0);
            is("sheet(3, 3)", 3);
            is("lay(3, 0, 128)", 1000);
            is("lay(3, 1, 127)", 1000);
            is("lay(3, 2, -1)", 1000);
            digestIs(-1, -1, -1, -1, -1, -1, -1, -1, -1, -1, 0, -1, -1, 3, -128, 127, -1);

            edge(34, "of each GROUND n, RIGHT of its SQUARES, UP of them: the first and the last");
            make(0, "120", "201");
            make(9, "3012", "1203");
            is("tear(0)", 1);
            is("tear(1)", 1);
            digestIs(3, 1, 2, 0, 2, 0, 1, -1, -1, -1, -1, -1, -1, -1, -1, 4, 3, 0, 1, 2, 1, 2, 0, 3, -1, -1, -1, -1);

            edge(34, "of each GROUND n, RIGHT of its SQUARES, UP of them: nothing of a longer one that was there");
            make(0, LONG_ROW);
            make(0, ONE);
            digestIs(1, 0, 0, -1, -1, -1, -1, -1, -1, -1, -1, -1, 1, 0, 1, 0, -1, -1);

            edge(34, "h = 31 h + v, wrapped around: all that can be there is there");
            int[] values = new int[10 * 17 + 4 * 9];
            row(0, "12345670");
            row(1, "70123456");
            row(2, "12305674");
            row(3, "60124357");
            for (int g = 0; g < 10; g++) {
                is("ground(" + g + ", " + g % 2 + ", " + (2 + g / 5) + ")", 8);
            }
            String[] told = {"12345670", "70123456", "12305674", "60124357"};
            int at = 0;
            for (int g = 0; g < 10; g++) {
                values[at++] = 8;
                for (char c : (told[g % 2] + told[2 + g / 5]).toCharArray()) {
                    values[at++] = c - '0';
                }
            }
            for (String bytes : told) {
                values[at++] = 8;
                for (char c : bytes.toCharArray()) {
                    values[at++] = c - '0';
                }
            }
            digestIs(values);

            edge(34, "what is there no more leaves nothing behind");
            make(0, LONG_ROW);
            finds("drop(1)", NOTHING);
            tells("share(0)", 1, 8);
            is("drop(0)", 1);
            is("tear(0)", 1);
            is("tear(1)", 1);
            digestIs(-1, -1, -1, -1, -1, -1, -1, -1, -1, -1, -1, -1, -1, -1);
        }
    }
}
