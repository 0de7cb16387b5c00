/** Each promise by hand: ordinary inputs, the edges that the document names, wrong inputs. */
public final class PromisesTest {
    private static final int BAD = -1, FINDING = -3, STATE = -4, SPENT = -6, NONE = -9;
    private static final int NOTHING = 1, BEYOND = 2, UNLIKE = 3, NOUGHT = 4, SIZE = 5;
    private static final int LOWEST = Integer.MIN_VALUE, HIGHEST = Integer.MAX_VALUE;

    // RIGHT, UP as digits.
    private static final String ONE_RIGHT = "0", ONE_UP = "0";
    private static final String ELL_RIGHT = "102", ELL_UP = "210";
    private static final String TWIN_RIGHT = "1032", TWIN_UP = "0321";
    private static final String BLOCK_RIGHT = "1032", BLOCK_UP = "2301";
    private static final String ROW_RIGHT = "1230", ROW_UP = "0123";
    // Two CORNERS that bend, not alike: 0 2 and 1 3 5 4.
    private static final String PLAIN_RIGHT = "513024", PLAIN_UP = "042513";
    // Three CORNERS that bend, two of 2 SQUARES and one of 3.
    private static final String THREE_RIGHT = "3421560", THREE_UP = "6204513";
    // The units 1, i, -1, -i, j, -k, -j, k: RIGHT is times i, UP times j. Four CORNERS of two SQUARES each.
    private static final String UNITS_RIGHT = "12305674", UNITS_UP = "47652103";
    private static final String SPENT_RIGHT = "02354617", SPENT_UP = "10463752";

    private static int wrong = 0;
    private static int promise = 0;

    private PromisesTest() {
    }

    public static void main(String[] args) {
        newObject();
        sheet();
        lay();
        tear();
        copy();
        ground();
        groundRefused();
        drop();
        twin();
        told();
        mark();
        next();
        bend();
        name();
        alike();
        mean();
        shear();
        turn();
        see();
        cylinders();
        cylinder();
        share();
        reach();
        reached();
        cusps();
        width();
        meanShare();
        twist();
        comes();
        fractions();
        count();
        finding();
        digest();
        refusedChangesNothing();
        System.out.println(wrong == 0 ? "all promises hold" : wrong + " answers are not as due");
        if (wrong != 0) {
            System.exit(1);
        }
    }

    private static void due(String call, long got, long want) {
        if (got != want) {
            wrong++;
            System.out.println("promise " + promise + ": " + call + " answered " + got + ", due is " + want);
        }
    }

    /** The last answer was a FINDING, this one. */
    private static void finds(SquareGrounds x, String call, int answer, int finding) {
        due(call, answer, FINDING);
        due("finding() after " + call, x.finding(), finding);
    }

    private static void tells(SquareGrounds x, String call, int answer, long upper, long lower) {
        due(call, answer, 1);
        due("upper() after " + call, x.upper(), upper);
        due("lower() after " + call, x.lower(), lower);
    }

    private static void write(SquareGrounds x, int s, String digits) {
        x.sheet(s, digits.length());
        for (int i = 0; i < digits.length(); i++) {
            x.lay(s, i, digits.charAt(i) - '0');
        }
    }

    private static int make(SquareGrounds x, int g, String right, String up) {
        write(x, 0, right);
        write(x, 1, up);
        return x.ground(g, 0, 1);
    }

    private static SquareGrounds with(String right, String up) {
        SquareGrounds x = new SquareGrounds();
        due("ground(0) of " + right + ", " + up, make(x, 0, right, up), right.length());
        return x;
    }

    /** RIGHT then UP of all SQUARES, as digits. */
    private static void isLaid(SquareGrounds x, int g, String right, String up) {
        due("told(" + g + ", 0)", x.told(g, 0), right.length());
        for (int s = 0; s < right.length(); s++) {
            due("next(" + g + ", " + s + ", false)", x.next(g, s, false), right.charAt(s) - '0');
            due("next(" + g + ", " + s + ", true)", x.next(g, s, true), up.charAt(s) - '0');
        }
    }

    private static void newObject() {
        promise = 1;
        SquareGrounds x = new SquareGrounds();
        for (int what = 0; what < 3; what++) {
            due("count(" + what + ")", x.count(what), 0);
        }
        for (int s = 0; s < 4; s++) {
            finds(x, "tear(" + s + ")", x.tear(s), NOTHING);
        }
        for (int g = 0; g < 10; g++) {
            finds(x, "drop(" + g + ")", x.drop(g), NOTHING);
        }
        make(x, 0, ELL_RIGHT, ELL_UP);
        due("count(1) of another object", new SquareGrounds().count(1), 0);
    }

    private static void sheet() {
        promise = 2;
        SquareGrounds x = new SquareGrounds();
        due("sheet(0, 0)", x.sheet(0, 0), 0);
        due("sheet(3, 8)", x.sheet(3, 8), 8);
        due("count(0)", x.count(0), 2);
        due("lay(3, 7, 9)", x.lay(3, 7, 9), 1000);
        due("sheet(3, 8) anew", x.sheet(3, 8), 8);
        due("lay(3, 7, 0): 0 again", x.lay(3, 7, 0), 1000);
        due("lay(3, 2, 5)", x.lay(3, 2, 5), 1000);
        due("sheet(3, 1) shorter", x.sheet(3, 1), 1);
        finds(x, "lay(3, 1, 0)", x.lay(3, 1, 0), BEYOND);
        due("sheet(3, 3) longer", x.sheet(3, 3), 3);
        due("lay(3, 2, 0): nothing left of what was", x.lay(3, 2, 0), 1000);
        due("sheet(-1, 1)", x.sheet(-1, 1), BAD);
        due("sheet(4, 1)", x.sheet(4, 1), BAD);
        due("sheet(0, 9)", x.sheet(0, 9), BAD);
        due("sheet(0, HIGHEST)", x.sheet(0, HIGHEST), BAD);
        due("sheet(4, -1): BAD ahead of SIZE", x.sheet(4, -1), BAD);
        finds(x, "sheet(1, -1)", x.sheet(1, -1), SIZE);
        finds(x, "sheet(1, LOWEST)", x.sheet(1, LOWEST), SIZE);
        due("count(0) at last", x.count(0), 2);
    }

    private static void lay() {
        promise = 3;
        SquareGrounds x = new SquareGrounds();
        x.sheet(2, 2);
        due("lay(2, 1, 127)", x.lay(2, 1, 127), 1000);
        due("lay(2, 1, 128)", x.lay(2, 1, 128), 1127);
        due("lay(2, 1, 255)", x.lay(2, 1, 255), 872);
        due("lay(2, 1, 256)", x.lay(2, 1, 256), 999);
        due("lay(2, 1, LOWEST + 3)", x.lay(2, 1, LOWEST + 3), 1000);
        due("lay(2, 1, 0)", x.lay(2, 1, 0), 1003);
        due("lay(2, 0, 0)", x.lay(2, 0, 0), 1000);
        finds(x, "lay(2, 2, 1)", x.lay(2, 2, 1), BEYOND);
        finds(x, "lay(2, -1, 1)", x.lay(2, -1, 1), BEYOND);
        finds(x, "lay(2, LOWEST, 1)", x.lay(2, LOWEST, 1), BEYOND);
        finds(x, "lay(2, HIGHEST, 1)", x.lay(2, HIGHEST, 1), BEYOND);
        finds(x, "lay(1, 0, 1)", x.lay(1, 0, 1), NOTHING);
        finds(x, "lay(1, -1, 1): NOTHING ahead of BEYOND", x.lay(1, -1, 1), NOTHING);
        due("lay(4, 0, 1)", x.lay(4, 0, 1), BAD);
        due("lay(-1, 0, 1)", x.lay(-1, 0, 1), BAD);
        x.sheet(2, 0);
        finds(x, "lay(2, 0, 1) without bytes", x.lay(2, 0, 1), BEYOND);
    }

    private static void tear() {
        promise = 4;
        SquareGrounds x = new SquareGrounds();
        x.sheet(0, 0);
        x.sheet(3, 8);
        due("tear(3)", x.tear(3), 1);
        due("count(0)", x.count(0), 1);
        finds(x, "tear(3) again", x.tear(3), NOTHING);
        finds(x, "lay(3, 0, 0)", x.lay(3, 0, 0), NOTHING);
        due("tear(0) without bytes", x.tear(0), 1);
        due("tear(4)", x.tear(4), BAD);
        due("tear(-1)", x.tear(-1), BAD);
        make(x, 0, ELL_RIGHT, ELL_UP);
        x.tear(0);
        x.tear(1);
        isLaid(x, 0, ELL_RIGHT, ELL_UP);
    }

    private static void copy() {
        promise = 5;
        SquareGrounds x = new SquareGrounds();
        write(x, 0, "12345678");
        x.sheet(1, 4);
        due("copy(0, 5, 1, 1, 3)", x.copy(0, 5, 1, 1, 3), 1);
        bytesAre(x, 1, "0678");
        due("copy(0, 0, 0, 1, 7): up over itself", x.copy(0, 0, 0, 1, 7), 1);
        bytesAre(x, 0, "11234567");
        due("copy(0, 2, 0, 0, 6): down over itself", x.copy(0, 2, 0, 0, 6), 1);
        bytesAre(x, 0, "23456767");
        due("copy(0, 8, 1, 4, 0): none, at the ends", x.copy(0, 8, 1, 4, 0), 1);
        finds(x, "copy(0, 9, 1, 0, 0)", x.copy(0, 9, 1, 0, 0), BEYOND);
        finds(x, "copy(0, 0, 1, 5, 0)", x.copy(0, 0, 1, 5, 0), BEYOND);
        finds(x, "copy(0, 6, 1, 0, 3)", x.copy(0, 6, 1, 0, 3), BEYOND);
        finds(x, "copy(0, 0, 1, 2, 3)", x.copy(0, 0, 1, 2, 3), BEYOND);
        finds(x, "copy(0, -1, 1, 0, 1)", x.copy(0, -1, 1, 0, 1), BEYOND);
        finds(x, "copy(0, 0, 1, -1, 1)", x.copy(0, 0, 1, -1, 1), BEYOND);
        finds(x, "copy(0, 1, 0, 0, HIGHEST)", x.copy(0, 1, 0, 0, HIGHEST), BEYOND);
        finds(x, "copy(0, HIGHEST, 0, 0, 2)", x.copy(0, HIGHEST, 0, 0, 2), BEYOND);
        finds(x, "copy(0, LOWEST, 0, 0, 2)", x.copy(0, LOWEST, 0, 0, 2), BEYOND);
        bytesAre(x, 0, "23456767");
        bytesAre(x, 1, "0678");
        finds(x, "copy(0, 0, 2, 0, 1)", x.copy(0, 0, 2, 0, 1), NOTHING);
        finds(x, "copy(2, 0, 0, 0, 1)", x.copy(2, 0, 0, 0, 1), NOTHING);
        finds(x, "copy(2, 0, 3, 0, 0)", x.copy(2, 0, 3, 0, 0), NOTHING);
        finds(x, "copy(0, 99, 2, 0, 1): NOTHING ahead of BEYOND", x.copy(0, 99, 2, 0, 1), NOTHING);
        finds(x, "copy(0, 0, 1, 0, -1)", x.copy(0, 0, 1, 0, -1), SIZE);
        finds(x, "copy(2, 0, 3, 0, -1): SIZE ahead of NOTHING", x.copy(2, 0, 3, 0, -1), SIZE);
        due("copy(4, 0, 0, 0, -1): BAD ahead of SIZE", x.copy(4, 0, 0, 0, -1), BAD);
        due("copy(0, 0, 4, 0, 1)", x.copy(0, 0, 4, 0, 1), BAD);
        due("copy(-1, 0, 0, 0, 1)", x.copy(-1, 0, 0, 0, 1), BAD);
        due("copy(0, 0, -1, 0, 1)", x.copy(0, 0, -1, 0, 1), BAD);
    }

    private static void bytesAre(SquareGrounds x, int s, String digits) {
        for (int i = 0; i < digits.length(); i++) {
            int value = digits.charAt(i) - '0';
            due("byte " + i + " of SHEET " + s, x.lay(s, i, value), 1000 + value);
        }
    }

    private static void ground() {
        promise = 6;
        SquareGrounds x = new SquareGrounds();
        due("ground(0) of three", make(x, 0, ELL_RIGHT, ELL_UP), 3);
        isLaid(x, 0, ELL_RIGHT, ELL_UP);
        due("ground(9, 1, 0): ways exchanged", x.ground(9, 1, 0), 3);
        isLaid(x, 9, ELL_UP, ELL_RIGHT);
        due("ground(0) anew, of one", make(x, 0, ONE_RIGHT, ONE_UP), 1);
        isLaid(x, 0, ONE_RIGHT, ONE_UP);
        write(x, 3, "12345670");
        due("ground(1, 3, 3): one SHEET for both", x.ground(1, 3, 3), 8);
        isLaid(x, 1, "12345670", "12345670");
        x.lay(3, 0, 5);
        isLaid(x, 1, "12345670", "12345670");
        due("ground: hangs together by UP alone", make(x, 2, "01234567", "12345670"), 8);
        due("ground: hangs together by both in turn", make(x, 2, "10325476", "02143657"), 8);
        due("ground: hangs together from the far end", make(x, 2, "70123456", "01234567"), 8);
        due("ground: hangs together by both, from the far end", make(x, 2, "01325476", "70214365"), 8);
    }

    private static void groundRefused() {
        promise = 6;
        SquareGrounds x = new SquareGrounds();
        make(x, 0, ELL_RIGHT, ELL_UP);
        due("not all hang together", make(x, 0, "1032", "1032"), STATE);
        due("the last apart", make(x, 0, "120", "012"), 3);
        due("one apart", make(x, 0, "1023", "0213"), STATE);
        due("not each once in RIGHT", make(x, 0, "112", "120"), STATE);
        due("not each once in UP", make(x, 0, "120", "110"), STATE);
        due("a byte that is n", make(x, 0, "123", "120"), STATE);
        due("not as long", make(x, 0, "120", "1230"), STATE);
        due("not as long either", make(x, 0, "1230", "120"), STATE);
        due("without bytes", make(x, 0, "", ""), STATE);
        due("one without bytes", make(x, 0, "", "0"), STATE);
        write(x, 0, "120");
        write(x, 1, "120");
        x.lay(0, 0, -1);
        due("a byte below 0", x.ground(0, 0, 1), STATE);
        x.lay(0, 0, 256 + 1);
        due("a byte that was cut", x.ground(0, 0, 1), 3);
        x.lay(0, 0, 33);
        due("a byte that is 1 and 32", x.ground(0, 0, 1), STATE);
        finds(x, "ground(0, 1, 2)", x.ground(0, 1, 2), NOTHING);
        finds(x, "ground(0, 2, 1)", x.ground(0, 2, 1), NOTHING);
        finds(x, "ground(0, 0, 2): NOTHING ahead of STATE, as the call has it", x.ground(0, 0, 2), NOTHING);
        x.sheet(3, 0);
        finds(x, "ground(0, 3, 2)", x.ground(0, 3, 2), NOTHING);
        finds(x, "ground(0, 2, 3)", x.ground(0, 2, 3), NOTHING);
        due("ground(10, 1, 1)", x.ground(10, 1, 1), BAD);
        due("ground(-1, 1, 1)", x.ground(-1, 1, 1), BAD);
        due("ground(0, 4, 1)", x.ground(0, 4, 1), BAD);
        due("ground(0, 1, 4)", x.ground(0, 1, 4), BAD);
        due("ground(0, -1, 1)", x.ground(0, -1, 1), BAD);
        due("ground(0, 1, -1)", x.ground(0, 1, -1), BAD);
        due("ground(0, 4, 2): BAD ahead of NOTHING", x.ground(0, 4, 2), BAD);
        isLaid(x, 0, "120", "120");
    }

    private static void drop() {
        promise = 7;
        SquareGrounds x = with(ELL_RIGHT, ELL_UP);
        x.twin(0, 9);
        due("drop(9)", x.drop(9), 1);
        finds(x, "drop(9) again", x.drop(9), NOTHING);
        finds(x, "told(9, 0)", x.told(9, 0), NOTHING);
        due("count(1)", x.count(1), 1);
        isLaid(x, 0, ELL_RIGHT, ELL_UP);
        due("drop(10)", x.drop(10), BAD);
        due("drop(-1)", x.drop(-1), BAD);
    }

    private static void twin() {
        promise = 8;
        SquareGrounds x = with(ELL_RIGHT, ELL_UP);
        make(x, 1, "12345670", "21345670");
        due("twin(0, 9)", x.twin(0, 9), 3);
        isLaid(x, 9, ELL_RIGHT, ELL_UP);
        due("twin(0, 1): over a longer one", x.twin(0, 1), 3);
        isLaid(x, 1, ELL_RIGHT, ELL_UP);
        due("twin(0, 0)", x.twin(0, 0), 3);
        isLaid(x, 0, ELL_RIGHT, ELL_UP);
        x.shear(1, 1);
        isLaid(x, 0, ELL_RIGHT, ELL_UP);
        x.twin(1, 9);
        x.shear(9, -1);
        isLaid(x, 9, ELL_RIGHT, ELL_UP);
        finds(x, "twin(5, 0)", x.twin(5, 0), NOTHING);
        isLaid(x, 0, ELL_RIGHT, ELL_UP);
        due("twin(0, 10)", x.twin(0, 10), BAD);
        due("twin(10, 0)", x.twin(10, 0), BAD);
        due("twin(-1, 0)", x.twin(-1, 0), BAD);
        due("twin(5, -1): BAD ahead of NOTHING", x.twin(5, -1), BAD);
    }

    private static void toldAll(String right, String up, int... facts) {
        SquareGrounds x = with(right, up);
        for (int what = 0; what < facts.length; what++) {
            due("told(" + right + " " + up + ", " + what + ")", x.told(0, what), facts[what]);
        }
    }

    private static void told() {
        promise = 9;
        toldAll(ONE_RIGHT, ONE_UP, 1, 1, 1, 1, 0, 1);
        toldAll(ELL_RIGHT, ELL_UP, 3, 2, 2, 1, 1, 1);
        toldAll(TWIN_RIGHT, TWIN_UP, 4, 3, 2, 2, 2, 2);
        toldAll(BLOCK_RIGHT, BLOCK_UP, 4, 1, 1, 4, 0, 4);
        toldAll(ROW_RIGHT, ROW_UP, 4, 1, 1, 4, 0, 4);
        toldAll(PLAIN_RIGHT, PLAIN_UP, 6, 0, 3, 2, 2, 1);
        toldAll(THREE_RIGHT, THREE_UP, 7, 0, 3, 3, 3, 1);
        toldAll(UNITS_RIGHT, UNITS_UP, 8, 0, 3, 4, 4, 8);
        SquareGrounds x = with(ELL_RIGHT, ELL_UP);
        due("told(0, -1)", x.told(0, -1), BAD);
        due("told(0, 6)", x.told(0, 6), BAD);
        due("told(10, 0)", x.told(10, 0), BAD);
        due("told(-1, 0)", x.told(-1, 0), BAD);
        due("told(1, 6): BAD ahead of NOTHING", x.told(1, 6), BAD);
        for (int what = 0; what < 6; what++) {
            finds(x, "told(1, " + what + ")", x.told(1, what), NOTHING);
        }
    }

    private static void mark() {
        promise = 10;
        SquareGrounds x = with(ELL_RIGHT, ELL_UP);
        make(x, 1, TWIN_RIGHT, TWIN_UP);
        make(x, 2, BLOCK_RIGHT, BLOCK_UP);
        make(x, 3, ROW_RIGHT, ROW_UP);
        make(x, 4, UNITS_RIGHT, UNITS_UP);
        make(x, 5, PLAIN_RIGHT, PLAIN_UP);
        due("mark(0, 2)", x.mark(0, 2), 2);
        due("mark(1, 3)", x.mark(1, 3), 4);
        due("mark(2, 1)", x.mark(2, 1), 2);
        due("mark(3, 1)", x.mark(3, 1), 4);
        finds(x, "mark(0, 1)", x.mark(0, 1), UNLIKE);
        finds(x, "mark(0, 3)", x.mark(0, 3), UNLIKE);
        finds(x, "mark(1, 1)", x.mark(1, 1), UNLIKE);
        finds(x, "mark(1, 2)", x.mark(1, 2), UNLIKE);
        finds(x, "mark(2, 2)", x.mark(2, 2), UNLIKE);
        finds(x, "mark(2, 3)", x.mark(2, 3), UNLIKE);
        for (int kind = 1; kind < 4; kind++) {
            finds(x, "mark(4, " + kind + ")", x.mark(4, kind), UNLIKE);
            finds(x, "mark(5, " + kind + ")", x.mark(5, kind), UNLIKE);
            finds(x, "mark(9, " + kind + ")", x.mark(9, kind), NOTHING);
        }
        due("mark(0, 0)", x.mark(0, 0), BAD);
        due("mark(4, 0)", x.mark(4, 0), BAD);
        due("mark(0, 4)", x.mark(0, 4), BAD);
        due("mark(0, -1)", x.mark(0, -1), BAD);
        due("mark(9, 0): BAD ahead of NOTHING", x.mark(9, 0), BAD);
        due("mark(10, 1)", x.mark(10, 1), BAD);
        due("mark(-1, 1)", x.mark(-1, 1), BAD);
    }

    private static void next() {
        promise = 11;
        SquareGrounds x = with("1203", "0132");
        isLaid(x, 0, "1203", "0132");
        finds(x, "next(0, 4, true)", x.next(0, 4, true), BEYOND);
        finds(x, "next(0, 4, false)", x.next(0, 4, false), BEYOND);
        finds(x, "next(0, -1, true)", x.next(0, -1, true), BEYOND);
        finds(x, "next(0, LOWEST, false)", x.next(0, LOWEST, false), BEYOND);
        finds(x, "next(1, 9, true): NOTHING ahead of BEYOND", x.next(1, 9, true), NOTHING);
        due("next(10, 0, true)", x.next(10, 0, true), BAD);
        due("next(-1, 0, true)", x.next(-1, 0, true), BAD);
    }

    private static void bend() {
        promise = 12;
        SquareGrounds x = with("1230", "1023");
        // RIGHT, UP, LEFT, DOWN lead from 0 to 1 to 3 and back to 0; from 2 to itself.
        due("bend(0, 0)", x.bend(0, 0), 2);
        due("bend(0, 1)", x.bend(0, 1), 2);
        due("bend(0, 2)", x.bend(0, 2), 0);
        due("bend(0, 3)", x.bend(0, 3), 2);
        finds(x, "bend(0, 4)", x.bend(0, 4), BEYOND);
        finds(x, "bend(0, -1)", x.bend(0, -1), BEYOND);
        finds(x, "bend(1, 0)", x.bend(1, 0), NOTHING);
        due("bend(10, 0)", x.bend(10, 0), BAD);
        due("bend(-1, 0)", x.bend(-1, 0), BAD);
        make(x, 0, TWIN_RIGHT, TWIN_UP);
        for (int s = 0; s < 4; s++) {
            due("bend(TWIN, " + s + ")", x.bend(0, s), 1);
        }
    }

    private static void nameIs(SquareGrounds x, int g, String name) {
        for (int i = 0; i < name.length(); i++) {
            due("name(" + g + ", " + i + ")", x.name(g, i), name.charAt(i) - '0');
        }
        finds(x, "name beyond", x.name(g, name.length()), BEYOND);
    }

    private static void name() {
        promise = 13;
        SquareGrounds x = with(ELL_RIGHT, ELL_UP);
        // From 2: RIGHT of it is itself, UP is 0, then 1: least, as its first place is 0.
        nameIs(x, 0, "021102");
        make(x, 1, ONE_RIGHT, ONE_UP);
        nameIs(x, 1, "00");
        make(x, 2, ROW_RIGHT, ROW_UP);
        nameIs(x, 2, "12300123");
        make(x, 3, ROW_UP, ROW_RIGHT);
        nameIs(x, 3, "01231230");
        make(x, 4, "57310264", "20615473");
        nameIs(x, 4, leastRow("57310264", "20615473"));
        finds(x, "name(0, -1)", x.name(0, -1), BEYOND);
        finds(x, "name(0, LOWEST)", x.name(0, LOWEST), BEYOND);
        finds(x, "name(9, 0)", x.name(9, 0), NOTHING);
        due("name(10, 0)", x.name(10, 0), BAD);
        due("name(-1, 0)", x.name(-1, 0), BAD);
    }

    private static String leastRow(String right, String up) {
        String least = null;
        for (int from = 0; from < right.length(); from++) {
            String order = String.valueOf(from);
            for (int i = 0; i < right.length(); i++) {
                int square = order.charAt(i) - '0';
                for (char way : new char[] {right.charAt(square), up.charAt(square)}) {
                    order += order.indexOf(way) < 0 ? String.valueOf(way) : "";
                }
            }
            String row = "";
            for (String ways : new String[] {right, up}) {
                for (int i = 0; i < right.length(); i++) {
                    row += order.indexOf(ways.charAt(order.charAt(i) - '0'));
                }
            }
            least = least == null || row.compareTo(least) < 0 ? row : least;
        }
        return least;
    }

    private static void alike() {
        promise = 14;
        SquareGrounds x = with(ELL_RIGHT, ELL_UP);
        // The same, numbered 2, 0, 1 instead of 0, 1, 2.
        make(x, 1, "210", "021");
        due("ground(1) as made", x.told(1, 0), 3);
        make(x, 2, "201", "102");
        make(x, 3, ONE_RIGHT, ONE_UP);
        due("alike(0, 0)", x.alike(0, 0), 1);
        due("alike(0, 1)", x.alike(0, 1), 1);
        due("alike(1, 0)", x.alike(1, 0), 1);
        due("alike(0, 2)", x.alike(0, 2), 0);
        due("alike(0, 3): another n", x.alike(0, 3), 0);
        finds(x, "alike(0, 9)", x.alike(0, 9), NOTHING);
        finds(x, "alike(9, 0)", x.alike(9, 0), NOTHING);
        finds(x, "alike(9, 9)", x.alike(9, 9), NOTHING);
        due("findings(1): one for each call", x.findings(1), 3);
        due("alike(10, 0)", x.alike(10, 0), BAD);
        due("alike(0, 10)", x.alike(0, 10), BAD);
        due("alike(9, -1): BAD ahead of NOTHING", x.alike(9, -1), BAD);
        due("alike(-1, 0)", x.alike(-1, 0), BAD);
    }

    private static void mean() {
        promise = 15;
        SquareGrounds x = with(ELL_RIGHT, ELL_UP);
        due("mean(ELL)", x.mean(0), 3);
        make(x, 1, TWIN_RIGHT, TWIN_UP);
        due("mean(TWIN)", x.mean(1), 2);
        make(x, 2, PLAIN_RIGHT, PLAIN_UP);
        due("mean: 6 by 2", x.mean(2), 3);
        make(x, 3, THREE_RIGHT, THREE_UP);
        due("mean: 7 by 3, cut", x.mean(3), 2);
        make(x, 4, "1230", "1023");
        due("mean: a FLAT CORNER is not counted", x.mean(4), 3);
        make(x, 5, ROW_RIGHT, ROW_UP);
        finds(x, "mean(ROW)", x.mean(5), NOUGHT);
        make(x, 5, ONE_RIGHT, ONE_UP);
        finds(x, "mean(ONE)", x.mean(5), NOUGHT);
        finds(x, "mean(9)", x.mean(9), NOTHING);
        due("mean(10)", x.mean(10), BAD);
        due("mean(-1)", x.mean(-1), BAD);
    }

    private static void shear() {
        promise = 16;
        // RIGHT 0 1 2 in a round, 3 alone; UP exchanges 0 and 3. LEFT of 0 is 2, UP of 2 is 2.
        SquareGrounds x = with("1203", "3120");
        due("shear(0, 1)", x.shear(0, 1), 4);
        isLaid(x, 0, "1203", "2310");
        due("shear(0, -1)", x.shear(0, -1), 4);
        isLaid(x, 0, "1203", "3120");
        due("shear(0, -1): beyond where it began", x.shear(0, -1), 4);
        isLaid(x, 0, "1203", "1230");
        due("shear(0, 1): back", x.shear(0, 1), 4);
        due("shear(0, 3): a round", x.shear(0, 3), 4);
        isLaid(x, 0, "1203", "3120");
        due("shear(0, 0)", x.shear(0, 0), 4);
        isLaid(x, 0, "1203", "3120");
        due("shear(0, 100): one more than rounds", x.shear(0, 100), 4);
        isLaid(x, 0, "1203", "2310");
        due("shear(0, -100)", x.shear(0, -100), 4);
        isLaid(x, 0, "1203", "3120");
        due("shear(0, 101)", x.shear(0, 101), BAD);
        due("shear(0, -101)", x.shear(0, -101), BAD);
        due("shear(0, LOWEST)", x.shear(0, LOWEST), BAD);
        due("shear(10, 1)", x.shear(10, 1), BAD);
        due("shear(-1, 1)", x.shear(-1, 1), BAD);
        due("shear(9, 101): BAD ahead of NOTHING", x.shear(9, 101), BAD);
        finds(x, "shear(9, 0)", x.shear(9, 0), NOTHING);
        isLaid(x, 0, "1203", "3120");
    }

    private static void turn() {
        promise = 17;
        SquareGrounds x = with("1203", "1230");
        due("turn(0)", x.turn(0), 4);
        isLaid(x, 0, "3012", "1203");
        due("turn(0) again", x.turn(0), 4);
        isLaid(x, 0, "2013", "3012");
        due("turn(0) a third time", x.turn(0), 4);
        isLaid(x, 0, "1230", "2013");
        due("turn(0): all round", x.turn(0), 4);
        isLaid(x, 0, "1203", "1230");
        due("turn(0), then SHEAR", x.turn(0), 4);
        x.shear(0, 1);
        // LEFT is 1230 now, UP 1203.
        isLaid(x, 0, "3012", "2031");
        finds(x, "turn(9)", x.turn(9), NOTHING);
        due("turn(10)", x.turn(10), BAD);
        due("turn(-1)", x.turn(-1), BAD);
    }

    private static void see() {
        promise = 18;
        SquareGrounds x = with("1203", "3120");
        due("see(0, 1, 0)", x.see(0, 1, 0), 4);
        isLaid(x, 0, "1203", "3120");
        due("see(0, 0, 1): TURN undone", x.see(0, 0, 1), 4);
        isLaid(x, 0, "3120", "2013");
        x.turn(0);
        isLaid(x, 0, "1203", "3120");
        due("see(0, 1, 1)", x.see(0, 1, 1), 4);
        // SHEAR undone: UP 1230; then RIGHT is that, UP is LEFT.
        isLaid(x, 0, "1230", "2013");
        seeByHand(5, 3, 1, -2, -2);
        // (-2, 3): cut down is -1, over is 1; (-3, 1): -3, over is 0.
        seeByHand(-2, 3, -1, -3);
        seeByHand(-50, 1, -50);
        seeByHand(50, 49, 1, -49);
        seeByHand(-1, 50, -1, -2, -2, -2, -2, -2, -2, -2, -2, -2, -2, -2, -2, -2, -2, -2, -2, -2, -2, -2, -2,
            -2, -2, -2, -2, -2, -2, -2, -2, -2, -2, -2, -2, -2, -2, -2, -2, -2, -2, -2, -2, -2, -2, -2, -2,
            -2, -2, -2, -2, -2);
        slopesRefused(x);
    }

    /** Which times the SHEAR is undone, each followed by a TURN undone. */
    private static void seeByHand(int p, int q, int... times) {
        SquareGrounds x = with("1230456", "0165342");
        x.twin(0, 1);
        for (int k : times) {
            x.shear(1, -k);
            x.turn(1);
            x.turn(1);
            x.turn(1);
        }
        due("see(0, " + p + ", " + q + ")", x.see(0, p, q), 7);
        for (int s = 0; s < 7; s++) {
            due("RIGHT of " + s + " seen in " + p + ", " + q, x.next(0, s, false), x.next(1, s, false));
            due("UP of " + s + " seen in " + p + ", " + q, x.next(0, s, true), x.next(1, s, true));
        }
    }

    private static void slopesRefused(SquareGrounds x) {
        int[][] slopes = {{51, 1}, {-51, 1}, {1, 51}, {2, 4}, {-2, 4}, {50, 50}, {0, 2}, {0, 0}, {2, 0}, {-1, 0},
            {1, -1}, {0, -1}, {-50, 48}, {LOWEST, 1}, {1, LOWEST}, {HIGHEST, 2}, {LOWEST, 0}};
        long before = x.digest();
        for (int[] slope : slopes) {
            String told = slope[0] + ", " + slope[1] + ")";
            due("see(0, " + told, x.see(0, slope[0], slope[1]), BAD);
            due("cylinders(0, " + told, x.cylinders(0, slope[0], slope[1]), BAD);
            due("see(9, " + told + ": BAD ahead of NOTHING", x.see(9, slope[0], slope[1]), BAD);
        }
        due("see(10, 1, 0)", x.see(10, 1, 0), BAD);
        due("see(-1, 1, 0)", x.see(-1, 1, 0), BAD);
        finds(x, "see(9, 1, 0)", x.see(9, 1, 0), NOTHING);
        due("digest()", x.digest(), before);
    }

    private static void cylinders() {
        promise = 19;
        SquareGrounds x = with(ELL_RIGHT, ELL_UP);
        long before = x.digest();
        due("cylinders(0, 1, 0)", x.cylinders(0, 1, 0), 2);
        due("cylinders(0, 0, 1)", x.cylinders(0, 0, 1), 2);
        due("cylinders(0, 1, 1)", x.cylinders(0, 1, 1), 1);
        due("cylinders(0, -1, 1)", x.cylinders(0, -1, 1), 1);
        due("cylinders(0, 2, 1)", x.cylinders(0, 2, 1), 2);
        due("cylinders(0, 50, 49)", x.cylinders(0, 50, 49), 2);
        due("cylinders(0, 49, 47)", x.cylinders(0, 49, 47), 1);
        due("digest(): nothing is changed", x.digest(), before);
        finds(x, "cylinders(9, 1, 0)", x.cylinders(9, 1, 0), NOTHING);
        due("cylinders(9, 2, 0): BAD ahead of NOTHING", x.cylinders(9, 2, 0), BAD);
        due("cylinders(10, 1, 0)", x.cylinders(10, 1, 0), BAD);
        due("cylinders(-1, 1, 0)", x.cylinders(-1, 1, 0), BAD);
        make(x, 0, BLOCK_RIGHT, BLOCK_UP);
        due("cylinders(BLOCK, 7, 5): all RINGS are of one", x.cylinders(0, 7, 5), 1);
    }

    private static void cylinderIs(SquareGrounds x, int i, int w, int h, int least) {
        due("cylinder(0, " + i + ", 0)", x.cylinder(0, i, 0), w);
        due("cylinder(0, " + i + ", 1)", x.cylinder(0, i, 1), h);
        due("cylinder(0, " + i + ", 2)", x.cylinder(0, i, 2), least);
    }

    private static void cylinder() {
        promise = 20;
        SquareGrounds x = with(ELL_RIGHT, ELL_UP);
        cylinderIs(x, 0, 2, 1, 0);
        cylinderIs(x, 1, 1, 1, 2);
        cylinderIs(x, 2, NONE, NONE, NONE);
        cylinderIs(x, -1, NONE, NONE, NONE);
        cylinderIs(x, LOWEST, NONE, NONE, NONE);
        cylinderIs(x, HIGHEST, NONE, NONE, NONE);
        // Single SQUARES 2 .. 6 stand on SQUARE 0 of the RING 0 1.
        make(x, 0, "1023456", "2134560");
        cylinderIs(x, 0, 2, 1, 0);
        cylinderIs(x, 1, 1, 5, 2);
        cylinderIs(x, 2, NONE, NONE, NONE);
        // The same with its numbers turned about: the low RING is 5 6, the single ones 0 .. 4, the highest first.
        make(x, 0, "0123465", "5012346");
        cylinderIs(x, 0, 1, 5, 0);
        cylinderIs(x, 1, 2, 1, 5);
        make(x, 0, "10325476", "23456701");
        cylinderIs(x, 0, 2, 4, 0);
        cylinderIs(x, 1, NONE, NONE, NONE);
        due("cylinder(0, 0, 3)", x.cylinder(0, 0, 3), BAD);
        due("cylinder(0, 0, -1)", x.cylinder(0, 0, -1), BAD);
        due("cylinder(10, 0, 0)", x.cylinder(10, 0, 0), BAD);
        due("cylinder(-1, 0, 0)", x.cylinder(-1, 0, 0), BAD);
        due("cylinder(9, 0, 3): BAD ahead of NOTHING", x.cylinder(9, 0, 3), BAD);
        finds(x, "cylinder(9, 0, 0)", x.cylinder(9, 0, 0), NOTHING);
    }

    private static void share() {
        promise = 21;
        SquareGrounds x = with(ELL_RIGHT, ELL_UP);
        tells(x, "share(ELL)", x.share(0), 3, 2);
        make(x, 1, "1023456", "2134560");
        tells(x, "share: 1 by 2, 5 by 1", x.share(1), 11, 2);
        make(x, 1, "12345670", "12345670");
        tells(x, "share: 1 by 8", x.share(1), 1, 8);
        make(x, 1, "1234560", "1234560");
        tells(x, "share: 1 by 7", x.share(1), 1, 7);
        make(x, 1, "01234567", "12345670");
        tells(x, "share: 8 by 1", x.share(1), 8, 1);
        // RINGS of 3 and 5, glued at one SQUARE.
        make(x, 1, "12045673", "31204567");
        tells(x, "share: 1 by 3, 1 by 5", x.share(1), 8, 15);
        due("share(10)", x.share(10), BAD);
        due("share(-1)", x.share(-1), BAD);
        finds(x, "share(9)", x.share(9), NOTHING);
        due("upper(): as told last", x.upper(), 8);
        due("lower(): as told last", x.lower(), 15);
    }

    private static void reachRefused(SquareGrounds x, String call, int bad, int below, int missing, int spent) {
        due(call + " of 10", bad, BAD);
        due(call + " of -1", below, BAD);
        due(call + " of one that is missing", missing, FINDING);
        due(call + " of one with more than 500", spent, SPENT);
        due("finding() after " + call, x.finding(), NOTHING);
        due("findings(1) after " + call, x.findings(1), 1);
    }

    /** GROUND 5 has 540 in REACH, GROUND 0 three. */
    private static SquareGrounds withSpent() {
        SquareGrounds x = with(ELL_RIGHT, ELL_UP);
        due("ground(5) as made", make(x, 5, SPENT_RIGHT, SPENT_UP), 8);
        return x;
    }

    private static void reach() {
        promise = 22;
        SquareGrounds x = withSpent();
        reachRefused(x, "reach", x.reach(10), x.reach(-1), x.reach(9), x.reach(5));
        due("reach(0)", x.reach(0), 3);
        due("reach(5) again", x.reach(5), SPENT);
        due("reach(5) and again", x.reach(5), SPENT);
        make(x, 1, ONE_RIGHT, ONE_UP);
        due("reach(ONE)", x.reach(1), 1);
        make(x, 1, BLOCK_RIGHT, BLOCK_UP);
        due("reach(BLOCK)", x.reach(1), 1);
        make(x, 1, "02135674", "12345760");
        due("reach: the most below 500", x.reach(1), 480);
        x.shear(1, 7);
        due("reach: as many from another of them", x.reach(1), 480);
        due("reach(0) at last", x.reach(0), 3);
    }

    private static void reached() {
        promise = 23;
        SquareGrounds x = withSpent();
        reachRefused(x, "reached", x.reached(10, 0, 0), x.reached(-1, 0, 0), x.reached(9, 0, 0), x.reached(5, 0, 0));
        int[][] rows = {{1, 0, 1, 2}, {0, 2, 1, 2}, {2, 1, 1, 1}};
        for (int i = 0; i < 3; i++) {
            for (int what = 0; what < 4; what++) {
                due("reached(0, " + i + ", " + what + ")", x.reached(0, i, what), rows[i][what]);
            }
        }
        for (int what = 0; what < 4; what++) {
            due("reached(0, 3, " + what + ")", x.reached(0, 3, what), NONE);
            due("reached(0, -1, " + what + ")", x.reached(0, -1, what), NONE);
            due("reached(0, HIGHEST, " + what + ")", x.reached(0, HIGHEST, what), NONE);
            due("reached(5, HIGHEST, " + what + ")", x.reached(5, HIGHEST, what), SPENT);
        }
        due("reached(0, 0, 4)", x.reached(0, 0, 4), BAD);
        due("reached(0, 0, -1)", x.reached(0, 0, -1), BAD);
        due("reached(9, 0, 4): BAD ahead of NOTHING", x.reached(9, 0, 4), BAD);
        due("reached(5, 0, 4): BAD ahead of SPENT", x.reached(5, 0, 4), BAD);
        make(x, 1, TWIN_RIGHT, TWIN_UP);
        due("reached(TWIN, 0, 2)", x.reached(1, 0, 2), 2);
        reachedAsMade("123054", "024531");
        reachedAsMade("2130", "1032");
    }

    /** Each number of REACH is made by SHEARS and TURNS, and its facts are asked of what was made. */
    private static void reachedAsMade(String right, String up) {
        int many = with(right, up).reach(0);
        int known = 1;
        for (int i = 0; i < Math.min(many, 12); i++) {
            // A new one for each: one for all would be called more than 512 times.
            SquareGrounds x = with(right, up);
            come(x, i);
            due("SELVES of " + i, x.reached(0, i, 2), x.told(1, 5));
            due("CYLINDERS of " + i, x.reached(0, i, 3), x.cylinders(1, 1, 0));
            for (int what = 0; what < 2; what++) {
                come(x, i);
                due("way " + what + " from " + i, what == 0 ? x.shear(1, 1) : x.turn(1), right.length());
                int number = x.comes(0, 1);
                due("reached(0, " + i + ", " + what + ")", x.reached(0, i, what), number);
                due("new numbers are given in turn", number <= known ? 1 : 0, 1);
                known += number == known ? 1 : 0;
            }
        }
    }

    /** GROUND 1 becomes number i in REACH of GROUND 0, by the way on which it got its number. */
    private static void come(SquareGrounds x, int i) {
        if (i == 0) {
            x.twin(0, 1);
            return;
        }
        for (int from = 0; from < i; from++) {
            for (int what = 0; what < 2; what++) {
                if (x.reached(0, from, what) == i) {
                    come(x, from);
                    due("a step", what == 0 ? x.shear(1, 1) : x.turn(1), x.told(0, 0));
                    return;
                }
            }
        }
        due("a way to " + i, 0, 1);
    }

    private static void cusps() {
        promise = 24;
        SquareGrounds x = withSpent();
        reachRefused(x, "cusps", x.cusps(10), x.cusps(-1), x.cusps(9), x.cusps(5));
        due("cusps(ELL)", x.cusps(0), 2);
        make(x, 1, ONE_RIGHT, ONE_UP);
        due("cusps(ONE)", x.cusps(1), 1);
        make(x, 1, ROW_RIGHT, ROW_UP);
        due("cusps(ROW)", x.cusps(1), 3);
        make(x, 1, TWIN_RIGHT, TWIN_UP);
        due("cusps(TWIN)", x.cusps(1), 3);
    }

    private static void width() {
        promise = 25;
        SquareGrounds x = withSpent();
        reachRefused(x, "width", x.width(10, 0), x.width(-1, 0), x.width(9, 0), x.width(5, 0));
        due("width(ELL, 0)", x.width(0, 0), 2);
        due("width(ELL, 1)", x.width(0, 1), 1);
        due("width(ELL, 2)", x.width(0, 2), NONE);
        due("width(ELL, -1)", x.width(0, -1), NONE);
        due("width(ELL, LOWEST)", x.width(0, LOWEST), NONE);
        due("width(ELL, HIGHEST)", x.width(0, HIGHEST), NONE);
        due("width(5, HIGHEST)", x.width(5, HIGHEST), SPENT);
        make(x, 1, "02135674", "12345760");
        int sum = 0;
        for (int i = 0; i < x.cusps(1); i++) {
            sum += x.width(1, i);
        }
        due("all WIDTHS together", sum, 480);
    }

    private static void meanShare() {
        promise = 26;
        SquareGrounds x = withSpent();
        reachRefused(x, "meanShare", x.meanShare(10), x.meanShare(-1), x.meanShare(9), x.meanShare(5));
        due("upper(): nothing was told", x.upper(), 0);
        due("lower(): nothing was told", x.lower(), 1);
        tells(x, "meanShare(ELL)", x.meanShare(0), 10, 9);
        make(x, 1, ONE_RIGHT, ONE_UP);
        tells(x, "meanShare(ONE)", x.meanShare(1), 1, 1);
        make(x, 1, TWIN_RIGHT, TWIN_UP);
        tells(x, "meanShare(TWIN)", x.meanShare(1), 5, 4);
        due("meanShare(5)", x.meanShare(5), SPENT);
        due("upper(): as told last", x.upper(), 5);
        due("lower(): as told last", x.lower(), 4);
    }

    private static void twist() {
        promise = 27;
        SquareGrounds x = withSpent();
        reachRefused(x, "twist", x.twist(10), x.twist(-1), x.twist(9), x.twist(5));
        due("upper(): nothing was told", x.upper(), 0);
        due("lower(): nothing was told", x.lower(), 1);
        tells(x, "twist(ELL)", x.twist(0), 4, 3);
        make(x, 1, TWIN_RIGHT, TWIN_UP);
        tells(x, "twist(TWIN)", x.twist(1), 3, 2);
        make(x, 1, ROW_RIGHT, ROW_UP);
        tells(x, "twist(ROW)", x.twist(1), 1, 1);
        // This ground is known for it: SPAN 3, and yet the sum is no more than that of one without a bend.
        make(x, 1, UNITS_RIGHT, UNITS_UP);
        due("reach(UNITS)", x.reach(1), 1);
        tells(x, "twist(UNITS)", x.twist(1), 1, 1);
        tells(x, "share(UNITS)", x.share(1), 1, 2);
        due("twist(5)", x.twist(5), SPENT);
        due("upper(): as told last", x.upper(), 1);
        due("lower(): as told last", x.lower(), 2);
    }

    private static void comes() {
        promise = 28;
        SquareGrounds x = withSpent();
        reachRefused(x, "comes", x.comes(10, 0), x.comes(-1, 0), x.comes(9, 0), x.comes(5, 0));
        x.twin(0, 1);
        due("comes(0, 0)", x.comes(0, 0), 0);
        due("comes(0, 1)", x.comes(0, 1), 0);
        x.shear(1, 1);
        due("comes to its SHEAR", x.comes(0, 1), 1);
        x.turn(1);
        due("comes to the TURN of that", x.comes(0, 1), 2);
        due("comes back from there", x.comes(1, 0) > 0 ? 1 : 0, 1);
        make(x, 2, "120", "120");
        due("comes to one of another KIND", x.comes(0, 2), NONE);
        due("comes to one of another n", x.comes(0, 5), NONE);
        due("comes(5, 5): SPENT, though it is there", x.comes(5, 5), SPENT);
        due("comes(0, 10)", x.comes(0, 10), BAD);
        due("comes(9, -1): BAD ahead of NOTHING", x.comes(9, -1), BAD);
        finds(x, "comes(0, 9)", x.comes(0, 9), NOTHING);
        finds(x, "comes(9, 9)", x.comes(9, 9), NOTHING);
        due("findings(1): one for each call", x.findings(1), 3);
        finds(x, "comes(5, 9): NOTHING ahead of SPENT, as the call has it", x.comes(5, 9), NOTHING);
    }

    private static void fractions() {
        promise = 29;
        SquareGrounds x = with(ELL_RIGHT, ELL_UP);
        due("upper() before", x.upper(), 0);
        due("upper() after what is refused", x.share(7) + x.upper(), FINDING);
        x.share(0);
        due("upper()", x.upper(), 3);
        x.meanShare(0);
        due("upper()", x.upper(), 10);
        x.twist(0);
        due("upper()", x.upper(), 4);
        due("upper() after other calls", x.turn(0) + x.reach(0) + x.upper(), 10);
        due("upper() of another object", new SquareGrounds().upper(), 0);
        promise = 30;
        SquareGrounds y = with(ELL_RIGHT, ELL_UP);
        due("lower() before", y.lower(), 1);
        due("lower() after what is refused", y.share(7) + y.lower(), FINDING + 1);
        y.share(0);
        due("lower()", y.lower(), 2);
        y.meanShare(0);
        due("lower()", y.lower(), 9);
        y.twist(0);
        due("lower()", y.lower(), 3);
        y.drop(0);
        due("lower() after other calls", y.lower(), 3);
    }

    private static void count() {
        promise = 31;
        SquareGrounds x = with(ELL_RIGHT, ELL_UP);
        make(x, 9, TWIN_RIGHT, TWIN_UP);
        x.sheet(3, 0);
        due("count(0)", x.count(0), 3);
        due("count(1)", x.count(1), 2);
        due("count(2)", x.count(2), 7);
        for (int g = 0; g < 10; g++) {
            make(x, g, "12345670", "12345670");
        }
        due("count(1): all", x.count(1), 10);
        due("count(2): all", x.count(2), 80);
        x.sheet(2, 0);
        due("count(0): all", x.count(0), 4);
        due("count(3)", x.count(3), BAD);
        due("count(-1)", x.count(-1), BAD);
    }

    private static void finding() {
        promise = 32;
        SquareGrounds x = with(ROW_RIGHT, ROW_UP);
        due("finding() before any", x.finding(), 0);
        x.sheet(4, 0);
        x.ground(0, 0, 4);
        due("finding() after BAD", x.finding(), 0);
        x.drop(1);
        due("finding()", x.finding(), NOTHING);
        x.bend(0, 4);
        due("finding()", x.finding(), BEYOND);
        x.mark(0, 2);
        due("finding()", x.finding(), UNLIKE);
        x.mean(0);
        due("finding()", x.finding(), NOUGHT);
        x.sheet(0, -1);
        due("finding()", x.finding(), SIZE);
        x.told(0, 0);
        x.told(0, 9);
        due("finding(): the latest, whatever came since", x.finding(), SIZE);
        promise = 33;
        for (int f = 1; f <= 5; f++) {
            due("findings(" + f + ")", x.findings(f), 1);
        }
        x.mean(0);
        x.mean(0);
        due("findings(4)", x.findings(4), 3);
        due("findings(0)", x.findings(0), BAD);
        due("findings(6)", x.findings(6), BAD);
        due("findings(-1)", x.findings(-1), BAD);
        due("findings(HIGHEST)", x.findings(HIGHEST), BAD);
        due("findings of another object", new SquareGrounds().findings(1), 0);
    }

    private static long mix(long h, long... values) {
        for (long v : values) {
            h = 31 * h + v;
        }
        return h;
    }

    private static void digest() {
        promise = 34;
        SquareGrounds x = new SquareGrounds();
        due("digest() of a new one", x.digest(), mix(17, -1, -1, -1, -1, -1, -1, -1, -1, -1, -1, -1, -1, -1, -1));
        x.sheet(1, 0);
        x.sheet(2, 2);
        x.lay(2, 0, 200);
        x.lay(2, 1, 5);
        due("digest() of SHEETS", x.digest(),
            mix(17, -1, -1, -1, -1, -1, -1, -1, -1, -1, -1, -1, 0, 2, 200 - 256, 5, -1));
        make(x, 1, ELL_RIGHT, ELL_UP);
        x.tear(0);
        x.tear(1);
        due("digest() of a GROUND", x.digest(),
            mix(17, -1, 3, 1, 0, 2, 2, 1, 0, -1, -1, -1, -1, -1, -1, -1, -1, -1, -1, 2, 200 - 256, 5, -1));
        x.shear(1, 1);
        due("digest() of its SHEAR", x.digest(),
            mix(17, -1, 3, 1, 0, 2, 1, 2, 0, -1, -1, -1, -1, -1, -1, -1, -1, -1, -1, 2, 200 - 256, 5, -1));
        x.drop(1);
        x.tear(2);
        due("digest() of what is empty again", x.digest(), new SquareGrounds().digest());
    }

    private static void refusedChangesNothing() {
        promise = 0;
        SquareGrounds x = withSpent();
        x.share(0);
        long before = x.digest();
        x.sheet(0, 9);
        x.sheet(0, -1);
        x.lay(0, 8, 5);
        x.copy(0, 7, 1, 0, 2);
        x.copy(0, 0, 1, 0, -2);
        x.ground(0, 0, 3);
        x.twin(9, 0);
        x.shear(0, 101);
        x.see(0, 2, 2);
        x.meanShare(5);
        x.twist(5);
        x.twist(9);
        x.comes(5, 0);
        due("digest() after what is refused", x.digest(), before);
        due("upper() after what is refused", x.upper(), 3);
        due("lower() after what is refused", x.lower(), 2);
    }
}
