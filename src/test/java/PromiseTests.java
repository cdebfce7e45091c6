import java.util.Arrays;

/** For each promise: ordinary inputs, the edges that the document names, and wrong inputs. */
public final class PromiseTests {
    private static final int[] WRONG = {-1, -2, 64, 1000, Integer.MIN_VALUE, Integer.MAX_VALUE};
    private static final int[] NO_COORDINATE = {-32769, 32768, Integer.MIN_VALUE, Integer.MAX_VALUE};

    private static int wrong = 0;
    private static String promise = "";

    public static void main(String[] args) {
        promise1();
        promise2Numbers();
        promise2Edges();
        promise2CommonPlaces();
        promise2LargeNumbers();
        promise3();
        promise4();
        promise5();
        promise5Choice();
        promise5FirstSixteen();
        promise5OnTheLine();
        promise6();
        promise7();
        promise7Directions();
        promise8();
        promise9();
        promise10();
        promise10AsTheWallsAreNow();
        promise11();
        promise12();
        System.out.println(wrong == 0 ? "all answers are as due" : wrong + " answers are not as due");
        if (wrong != 0) {
            System.exit(1);
        }
    }

    private static void due(String call, long got, long want) {
        if (got != want) {
            wrong++;
            System.out.println(promise + ": " + call + " answered " + got + ", due is " + want);
        }
    }

    private static void due(String call, boolean got, boolean want) {
        due(call, got ? 1 : 0, want ? 1 : 0);
    }

    private static void due(String call, int[] got, int... want) {
        if (!Arrays.equals(got, want)) {
            wrong++;
            System.out.println(promise + ": " + call + " answered " + Arrays.toString(got)
                + ", due is " + Arrays.toString(want));
        }
    }

    private static int[] looks(NodeMaker x) {
        return new int[] {x.look(0), x.look(1), x.look(2), x.look(3), x.look(4), x.look(5)};
    }

    private static int[] nodes(NodeMaker x, int what) {
        int[] answers = new int[x.look(1)];
        for (int k = 0; k < answers.length; k++) {
            answers[k] = x.node(k, what);
        }
        return answers;
    }

    private static int[] steps(NodeMaker x, int what) {
        int[] answers = new int[x.look(3)];
        for (int i = 0; i < answers.length; i++) {
            answers[i] = x.step(i, what);
        }
        return answers;
    }

    private static int[] quotients(NodeMaker x, int k, int i) {
        int[] answers = new int[4];
        for (int which = 0; which < 4; which++) {
            answers[which] = (int) x.quotient(k, i, which);
        }
        return answers;
    }

    /**
     * Sixteen short walls that lie one above the other, 10 apart, and behind them a long one, number
     * 16, that stands and is cut by the lines of 7, 11 and 3.
     */
    private static NodeMaker ladder() {
        NodeMaker x = new NodeMaker();
        for (int i = 0; i < 16; i++) {
            x.put(0, 10 * i, 10, 10 * i);
        }
        x.put(20, -5, 20, 155);
        return x;
    }

    private static void promise1() {
        promise = "promise 1";
        NodeMaker x = new NodeMaker();
        due("look", looks(x), 0, 0, 1, 0, 0, 0);
        due("node(0, 0)", x.node(0, 0), -1);
        due("wall(0, 0)", x.wall(0, 0), -1);
        due("quotient(0, 0, 1)", x.quotient(0, 0, 1), -1);
        due("leaf(7, 7)", x.leaf(7, 7), 0);
        due("step(0, 0)", x.step(0, 0), -1);
        due("of(0, 0)", x.of(0, 0), 100000);
        due("take(0)", x.take(0), false);
        NodeMaker other = new NodeMaker();
        x.put(0, 0, 1, 1);
        due("look(0) of another object", other.look(0), 0);
        due("NONE", NodeMaker.NONE, -1);
    }

    private static void promise2Numbers() {
        promise = "promise 2";
        NodeMaker x = new NodeMaker();
        for (int i = 0; i < 64; i++) {
            due("put number " + i, x.put(i, 0, i, 5), i);
        }
        due("put of a 65th", x.put(100, 0, 100, 5), -1);
        due("look(0)", x.look(0), 64);
        x.take(40);
        x.take(7);
        x.take(63);
        due("put after take", x.put(100, 0, 100, 5), 7);
        due("put after take", x.put(101, 0, 101, 5), 40);
        due("put after take", x.put(102, 0, 102, 5), 63);
        due("put of a 65th", x.put(103, 0, 103, 5), -1);
    }

    private static void promise2Edges() {
        promise = "promise 2";
        NodeMaker x = new NodeMaker();
        for (int bad : NO_COORDINATE) {
            due("put(" + bad + ", 0, 1, 1)", x.put(bad, 0, 1, 1), -1);
            due("put(0, " + bad + ", 1, 1)", x.put(0, bad, 1, 1), -1);
            due("put(0, 0, " + bad + ", 1)", x.put(0, 0, bad, 1), -1);
            due("put(0, 0, 1, " + bad + ")", x.put(0, 0, 1, bad), -1);
        }
        due("put of one place", x.put(5, 5, 5, 5), -1);
        due("look(0)", x.look(0), 0);
        due("put to the corners", x.put(-32768, -32768, 32767, 32767), 0);
        due("put along an edge", x.put(-32768, 32767, 32767, 32767), 1);
        due("put of one step", x.put(-32768, -32768, -32768, -32767), 2);
        due("look(0)", x.look(0), 3);
    }

    private static void promise2CommonPlaces() {
        promise = "promise 2";
        NodeMaker x = new NodeMaker();
        due("put", x.put(0, 0, 10, 0), 0);
        int[][] refused = {
            {5, -5, 5, 5}, {5, 5, 5, -5}, {0, 0, 10, 0}, {10, 0, 0, 0},
            {5, 0, 5, 5}, {5, 5, 5, 0}, {1, 0, 9, 0}, {9, 0, 1, 0}, {-5, 0, 15, 0},
            {0, 0, 5, 0}, {5, 0, 0, 0}, {10, 0, 9, 0}, {0, 0, 11, 0}, {11, 0, 0, 0},
            {-5, 0, 1, 0}, {9, 0, 12, 0}, {-1, -1, 1, 1}, {0, -1, 0, 1}, {10, -3, 10, 3},
            {9, 1, 11, -1}, {4, 1, 6, -2},
        };
        for (int[] w : refused) {
            due("put(" + Arrays.toString(w) + ")", x.put(w[0], w[1], w[2], w[3]), -1);
        }
        due("look", looks(x), 1, 1, 2, 1, 1, 0);
        int[][] taken = {
            {10, 0, 20, 0}, {-10, 0, 0, 0}, {0, 0, 3, 7}, {3, -7, 0, 0}, {10, 0, 3, 7},
            {21, 0, 30, 0}, {5, 1, 5, 2}, {5, -1, 6, -1}, {11, 1, 11, 9}, {3, 7, 3, 8},
        };
        for (int i = 0; i < taken.length; i++) {
            int[] w = taken[i];
            due("put(" + Arrays.toString(w) + ")", x.put(w[0], w[1], w[2], w[3]), i + 1);
        }
    }

    private static void promise2LargeNumbers() {
        promise = "promise 2";
        NodeMaker x = new NodeMaker();
        due("put", x.put(-32768, -32768, 32767, 32767), 0);
        due("put across", x.put(-32768, 32767, 32767, -32768), -1);
        due("put beside", x.put(-32768, -32767, 32766, 32767), 1);
        due("put onto", x.put(20000, -32768, 20000, 20000), -1);
        due("put just before", x.put(20000, -32768, 20000, 19999), 2);
        NodeMaker y = new NodeMaker();
        due("put", y.put(0, 0, 32767, 32766), 0);
        due("put that misses by the least", y.put(32766, 32765, 32766, -5), 1);
        due("put that does not", y.put(32765, 32765, 32765, -5), -1);
    }

    private static void promise3() {
        promise = "promise 3";
        NodeMaker x = ladder();
        for (int none : WRONG) {
            due("take(" + none + ")", x.take(none), false);
        }
        due("take(17)", x.take(17), false);
        due("look", looks(x), 17, 20, 21, 20, 6, 3);
        due("take(16)", x.take(16), true);
        due("look", looks(x), 16, 16, 17, 16, 5, 0);
        due("take(16) once more", x.take(16), false);
        due("of(16, 0)", x.of(16, 0), 100000);
        due("take(0)", x.take(0), true);
        due("of(1, 1)", x.of(1, 1), 10);
        due("put where it was", x.put(0, 0, 10, 0), 0);
        due("look(0)", x.look(0), 16);
    }

    private static void promise4() {
        promise = "promise 4";
        NodeMaker x = ladder();
        x.look(1);
        x.clear();
        due("look", looks(x), 0, 0, 1, 0, 0, 0);
        due("node(0, 0)", x.node(0, 0), -1);
        due("of(3, 0)", x.of(3, 0), 100000);
        due("take(3)", x.take(3), false);
        due("leaf(5, 155)", x.leaf(5, 155), 0);
        due("put", x.put(0, 0, 10, 0), 0);
        x.clear();
        x.clear();
        due("look", looks(x), 0, 0, 1, 0, 0, 0);
    }

    private static void promise5() {
        promise = "promise 5";
        NodeMaker x = ladder();
        due("node(.., 0)", nodes(x, 0), 7, 11, 16, 13, 14, 15, 12, 16, 9, 10, 8, 3, 16, 5, 6, 4, 16, 1, 2, 0);
        due("node(.., 1)", nodes(x, 1), 1, 2, 3, 4, 5, -1, -1, 8, 9, -1, -1, 12, 13, 14, -1, -1, 17, 18, -1, -1);
        due("node(.., 2)", nodes(x, 2), 11, 7, -1, 6, -1, -1, -1, -1, 10, -1, -1, 16, -1, 15, -1, -1, -1, 19, -1, -1);
        due("node(.., 3)", nodes(x, 3), 1, 1, 1, 1, 1, 1, 1, 1, 1, 1, 1, 1, 1, 1, 1, 1, 1, 1, 1, 1);
        due("node(.., 4)", nodes(x, 4), 20, 10, 5, 4, 2, 1, 1, 4, 3, 1, 1, 9, 4, 3, 1, 1, 4, 3, 1, 1);
        due("node(.., 5)", nodes(x, 5), 0, 1, 2, 3, 4, 5, 4, 2, 3, 4, 4, 1, 2, 3, 4, 4, 2, 3, 4, 4);
        for (int what = 0; what < 6; what++) {
            due("node(20, " + what + ")", x.node(20, what), -1);
            for (int none : WRONG) {
                due("node(" + none + ", " + what + ")", x.node(none, what), -1);
            }
        }
        for (int none : new int[] {-1, 6, Integer.MIN_VALUE, Integer.MAX_VALUE}) {
            due("node(0, " + none + ")", x.node(0, none), -1);
        }
    }

    private static void promise5Choice() {
        promise = "promise 5";
        NodeMaker x = new NodeMaker();
        x.put(0, 0, 0, 10);
        x.put(5, 0, 5, 10);
        due("node(0, 0), of two as good", x.node(0, 0), 0);
        due("node(0, 2)", x.node(0, 2), 1);
        x.take(0);
        x.put(9, 0, 9, 10);
        due("node(0, 0), by numbers and not by time", x.node(0, 0), 0);
        due("node(0, 1)", x.node(0, 1), 1);

        NodeMaker cut = new NodeMaker();
        cut.put(0, 0, 10, 0);
        cut.put(20, -5, 20, 5);
        cut.put(12, 1, 18, 1);
        cut.put(12, -1, 18, -1);
        due("node(0, 0), a cut costs 4 and a wall of difference 1", cut.node(0, 0), 1);
        cut.take(1);
        cut.put(20, -5, 20, 0);
        due("node(0, 0), an end on the line is no cut", cut.node(0, 0), 0);
    }

    private static void promise5FirstSixteen() {
        promise = "promise 5";
        NodeMaker x = new NodeMaker();
        for (int i = 0; i < 16; i++) {
            int shift = i % 2 == 0 ? 0 : 30;
            x.put(shift, 10 * i, shift + 10, 10 * i);
        }
        x.put(20, -5, 20, 155);
        due("node(0, 0), the 17th is not weighed", x.node(0, 0), 7);
        due("look(5)", x.look(5) >= 1, true);
        x.take(15);
        due("node(0, 0), the 16th is", x.node(0, 0), 16);
        due("look(5)", x.look(5), 0);
    }

    private static void promise5OnTheLine() {
        promise = "promise 5";
        NodeMaker x = new NodeMaker();
        x.put(0, 0, 10, 10);
        x.put(30, 30, 20, 20);
        x.put(5, 50, 5, 60);
        x.put(10, 10, 20, 20);
        x.put(10, 10, 40, 20);
        due("node(.., 0)", nodes(x, 0), 0, 2, 4);
        due("node(.., 3)", nodes(x, 3), 3, 1, 1);
        due("node(0, 1)", x.node(0, 1), 1);
        due("node(0, 2)", x.node(0, 2), 2);
    }

    private static void promise6() {
        promise = "promise 6";
        NodeMaker x = new NodeMaker();
        x.put(0, 0, 10, 10);
        x.put(30, 30, 20, 20);
        x.put(5, 50, 5, 60);
        x.put(10, 10, 20, 20);
        due("wall(0, 0)", x.wall(0, 0), 0);
        due("wall(0, 1)", x.wall(0, 1), 1);
        due("wall(0, 2)", x.wall(0, 2), 3);
        due("wall(0, 3)", x.wall(0, 3), -1);
        due("wall(1, 0)", x.wall(1, 0), 2);
        due("wall(1, 1)", x.wall(1, 1), -1);
        due("wall(2, 0)", x.wall(2, 0), -1);
        for (int none : WRONG) {
            due("wall(" + none + ", 0)", x.wall(none, 0), -1);
            due("wall(0, " + none + ")", x.wall(0, none), -1);
        }
    }

    private static void promise7() {
        promise = "promise 7";
        NodeMaker x = ladder();
        due("quotient(0, 0, ..)", quotients(x, 0, 0), 0, 1, 1, 1);
        due("quotient(2, 0, ..)", quotients(x, 2, 0), 23, 32, 1, 1);
        due("quotient(7, 0, ..)", quotients(x, 7, 0), 15, 32, 23, 32);
        due("quotient(12, 0, ..)", quotients(x, 12, 0), 7, 32, 15, 32);
        due("quotient(16, 0, ..)", quotients(x, 16, 0), 0, 1, 7, 32);
        for (int which = 0; which < 4; which++) {
            due("quotient(20, 0, " + which + ")", x.quotient(20, 0, which), -1);
            due("quotient(0, 1, " + which + ")", x.quotient(0, 1, which), -1);
            for (int none : WRONG) {
                due("quotient(" + none + ", 0, " + which + ")", x.quotient(none, 0, which), -1);
                due("quotient(0, " + none + ", " + which + ")", x.quotient(0, none, which), -1);
            }
        }
        for (int none : new int[] {-1, 4, Integer.MIN_VALUE, Integer.MAX_VALUE}) {
            due("quotient(0, 0, " + none + ")", x.quotient(0, 0, none), -1);
        }
    }

    private static void promise7Directions() {
        promise = "promise 7";
        NodeMaker down = ladder();
        down.take(16);
        down.put(20, 155, 20, -5);
        due("node(.., 0)", nodes(down, 0), 7, 11, 16, 13, 14, 15, 12, 16, 9, 10, 8, 3, 16, 5, 6, 4, 16, 1, 2, 0);
        due("node(2, 2), all lie to its right now", down.node(2, 2), 3);
        due("quotient(2, 0, ..)", quotients(down, 2, 0), 0, 1, 9, 32);
        due("quotient(7, 0, ..)", quotients(down, 7, 0), 9, 32, 17, 32);
        due("quotient(16, 0, ..)", quotients(down, 16, 0), 25, 32, 1, 1);
    }

    private static void promise8() {
        promise = "promise 8";
        NodeMaker x = ladder();
        int[][] places = {
            {5, 155}, {5, 145}, {5, 135}, {5, 125}, {5, 115}, {30, 155}, {5, 105}, {5, 95}, {5, 85}, {5, 75}, {30, 90},
            {5, 65}, {5, 55}, {5, 45}, {5, 35}, {30, 50}, {5, 25}, {5, 15}, {5, 5}, {5, -5}, {30, 0},
        };
        for (int i = 0; i < places.length; i++) {
            due("leaf(" + Arrays.toString(places[i]) + ")", x.leaf(places[i][0], places[i][1]), i);
        }
        due("leaf(5, 70), on a line", x.leaf(5, 70), 11);
        due("leaf(20, 155), on a line", x.leaf(20, 155), 5);
        due("leaf(20, 0), on two", x.leaf(20, 0), 20);
        due("leaf in a corner", x.leaf(-32768, 32767), 0);
        due("leaf in a corner", x.leaf(32767, -32768), 20);
        for (int bad : NO_COORDINATE) {
            due("leaf(" + bad + ", 0)", x.leaf(bad, 0), -1);
            due("leaf(0, " + bad + ")", x.leaf(0, bad), -1);
        }
    }

    private static void promise9() {
        promise = "promise 9";
        NodeMaker x = new NodeMaker();
        due("way(0, 0) without walls", x.way(0, 0), 0);
        x = ladder();
        for (int bad : NO_COORDINATE) {
            due("way(" + bad + ", 0)", x.way(bad, 0), -1);
            due("way(0, " + bad + ")", x.way(0, bad), -1);
        }
        due("step(0, 0), there is no way yet", x.step(0, 0), -1);
        due("way(5, 155)", x.way(5, 155), 20);
        due("step(0, 0)", x.step(0, 0), 15);
        due("way(30, 32768)", x.way(30, 32768), -1);
        due("step(0, 0), the way before stays", x.step(0, 0), 15);
        due("way(30, -10)", x.way(30, -10), 20);
        due("step(0, 0)", x.step(0, 0), 16);
        due("way to the corners", x.way(-32768, 32767) + x.way(32767, -32768), 40);
    }

    private static void promise10() {
        promise = "promise 10";
        NodeMaker x = ladder();
        due("step(0, 0) without a way", x.step(0, 0), -1);
        x.way(5, 155);
        due("step(.., 0)", steps(x, 0), 15, 14, 13, 12, 16, 11, 10, 9, 8, 16, 7, 6, 5, 4, 16, 3, 2, 1, 0, 16);
        due("step(.., 1)", steps(x, 1), 5, 4, 3, 6, 2, 1, 9, 8, 10, 7, 0, 14, 13, 15, 12, 11, 18, 17, 19, 16);
        x.way(30, -10);
        due("step(.., 0)", steps(x, 0), 16, 0, 1, 2, 3, 16, 4, 5, 6, 7, 16, 8, 9, 10, 11, 16, 12, 13, 14, 15);
        x.way(20, 70);
        due("step(.., 0), on lines", steps(x, 0), 16, 6, 5, 4, 3, 16, 2, 1, 0, 7, 16, 8, 9, 10, 11, 16, 12, 13, 14, 15);
        for (int what = 0; what < 3; what++) {
            due("step(20, " + what + ")", x.step(20, what), -1);
            for (int none : WRONG) {
                due("step(" + none + ", " + what + ")", x.step(none, what), -1);
            }
        }
        for (int none : new int[] {-1, 3, Integer.MIN_VALUE, Integer.MAX_VALUE}) {
            due("step(0, " + none + ")", x.step(0, none), -1);
        }
    }

    private static void promise10AsTheWallsAreNow() {
        promise = "promise 10";
        NodeMaker x = new NodeMaker();
        x.way(5, 100);
        due("step(0, 0)", x.step(0, 0), -1);
        x.put(0, 0, 10, 0);
        x.put(30, 0, 20, 0);
        x.put(0, 50, 10, 50);
        due("step(.., 0)", steps(x, 0), 2, 0, 1);
        due("step(.., 1)", steps(x, 1), 1, 0, 0);
        due("step(.., 2)", steps(x, 2), 0, 0, 1);
        x.take(0);
        due("step(.., 0)", steps(x, 0), 2, 1);
        due("step(2, 0)", x.step(2, 0), -1);
        x.clear();
        due("step(0, 0)", x.step(0, 0), -1);
        x.put(0, 0, 10, 0);
        due("step(0, 0), the place stays", x.step(0, 0), 0);
    }

    private static void promise11() {
        promise = "promise 11";
        NodeMaker x = ladder();
        due("of(16, 0)", x.of(16, 0), 20);
        due("of(16, 1)", x.of(16, 1), -5);
        due("of(16, 2)", x.of(16, 2), 20);
        due("of(16, 3)", x.of(16, 3), 155);
        due("of(16, 4)", x.of(16, 4), 4);
        due("of(3, 4)", x.of(3, 4), 1);
        for (int what = 0; what < 5; what++) {
            due("of(17, " + what + ")", x.of(17, what), 100000);
            for (int none : WRONG) {
                due("of(" + none + ", " + what + ")", x.of(none, what), 100000);
            }
        }
        for (int none : new int[] {-1, 5, Integer.MIN_VALUE, Integer.MAX_VALUE}) {
            due("of(16, " + none + ")", x.of(16, none), 100000);
        }
        x.take(7);
        due("of(16, 4), as the walls are now", x.of(16, 4), x.look(5) + 1);
        NodeMaker y = new NodeMaker();
        y.put(-32768, 32767, -1, -1);
        due("of(0, 0)", y.of(0, 0), -32768);
        due("of(0, 1)", y.of(0, 1), 32767);
        due("of(0, 2)", y.of(0, 2), -1);
        due("of(0, 3)", y.of(0, 3), -1);
    }

    private static void promise12() {
        promise = "promise 12";
        NodeMaker x = ladder();
        due("look", looks(x), 17, 20, 21, 20, 6, 3);
        for (int none : new int[] {-1, 6, 7, Integer.MIN_VALUE, Integer.MAX_VALUE}) {
            due("look(" + none + ")", x.look(none), -1);
        }
        x.put(0, 0, 10, 0);
        due("look after a put that was refused", looks(x), 17, 20, 21, 20, 6, 3);
        x.put(10, 0, 12, 0);
        due("look after one more on a line", looks(x), 18, 20, 21, 21, 6, 3);

        NodeMaker square = new NodeMaker();
        square.put(0, 0, 10, 0);
        square.put(10, 0, 10, 10);
        square.put(10, 10, 0, 10);
        square.put(0, 10, 0, 0);
        due("look at a square", looks(square), 4, 4, 5, 4, 4, 0);
    }
}
