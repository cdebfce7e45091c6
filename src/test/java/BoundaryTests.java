import java.util.ArrayList;
import java.util.Arrays;
import java.util.List;
import java.util.function.Consumer;
import java.util.function.ToLongFunction;

/**
 * One test for each sentence of the document that names a boundary: too small, too large, empty, full,
 * a refused call. Each prints its sentence if it does not hold. The answers are worked out by hand, but
 * under "What stays": there an object is compared with one that had the same walls from the start.
 */
public final class BoundaryTests {
    private static final int LEAST = -32768;
    private static final int GREATEST = 32767;
    private static final int[] BEYOND = {LEAST - 1, GREATEST + 1, Integer.MIN_VALUE, Integer.MAX_VALUE, 65536, -65536};

    private static int wrong = 0;
    private static int tests = 0;
    private static String sentence = "";

    public static void main(String[] args) {
        howLongAnObjectIsUsed();
        theWalls();
        theSides();
        thePieces();
        theTree();
        theNumbers();
        theWay();
        whatStays();
        theCallsThatChange();
        theCallsThatAsk();
        System.out.println(tests + " sentences tested");
        System.out.println(wrong == 0 ? "all answers are as due" : wrong + " answers are not as due");
        if (wrong != 0) {
            System.exit(1);
        }
    }

    private static void howLongAnObjectIsUsed() {
        test("An object is used for at most 512 calls after it has been made (small)", BoundaryTests::lastOf512Calls);
        test("An object is used for at most 512 calls after it has been made (full)", BoundaryTests::full512Calls);
    }

    private static void theWalls() {
        test("There are up to 64 WALLS", BoundaryTests::upTo64Walls);
        test("numbered 0 .. 63 as they are put in, the least number that none has", BoundaryTests::leastNumber);
        test("each goes from a place A to another one B", BoundaryTests::anotherPlace);
        test("x and y -32768 .. 32767", BoundaryTests::coordinates);
        test("No two have a place in common", BoundaryTests::commonPlaces);
        test("but an end of both", BoundaryTests::commonEnds);
        test("No two have a place in common (any two)", BoundaryTests::commonPlacesWithAnyWall);
        test("No two have a place in common (large)", BoundaryTests::commonPlacesFarApart);
    }

    private static void theSides() {
        test("LEFT if cross(B - A, C - A) is above 0, RIGHT if it is below, ON it if it is 0", BoundaryTests::sides);
        test("cross(p, q) is p.x * q.y - p.y * q.x (large)", BoundaryTests::largeSides);
    }

    private static void thePieces() {
        test("A PIECE is a WALL from one quotient to a greater one, 0 to 1 for all of it", BoundaryTests::wholePieces);
        test("CUT by a line if its ends lie LEFT and RIGHT of it (own ends)", BoundaryTests::cutOfWholeWalls);
        test("CUT by a line if its ends lie LEFT and RIGHT of it (ends of a cut)", BoundaryTests::endOfACutOnALine);
        test("it becomes two: the first, up to there, and the second", BoundaryTests::firstAndSecond);
        test("cuts are exact quotients (products above 2 to the 63rd)", BoundaryTests::largeProducts);
    }

    private static void theTree() {
        test("if it is empty it is a LEAF", BoundaryTests::emptyTree);
        test("one of its first 16 PIECES", BoundaryTests::firstSixteen);
        test("4 times the number of PIECES it CUTS, and the difference ..., is least", BoundaryTests::priceOfACut);
        test("of several the first", BoundaryTests::ofSeveralTheFirst);
        test("the difference of how many lie LEFT and how many RIGHT", BoundaryTests::differenceOfBothKinds);
        test("those ON it (both ends) are the NODE's", BoundaryTests::onTheLine);
        test("those that lie LEFT (no end RIGHT) go to one LIST, those RIGHT to another", BoundaryTests::oneEndOnTheLine);
        test("in their order ... at its place", BoundaryTests::piecesAtTheirPlaces);
        test("THE TREE of the most WALLS, one behind the other", BoundaryTests::deepestTree);
        test("THE TREE of the most WALLS, with many cuts", BoundaryTests::manyPieces);
    }

    private static void theNumbers() {
        test("NODES are numbered from 0 on: a NODE, then its LEFT TREE, then its RIGHT one", BoundaryTests::nodeNumbers);
        test("So are LEAVES: those of the LEFT TREE first", BoundaryTests::leafNumbers);
    }

    private static void theWay() {
        test("the TREE on the side where E lies, then the NODE's PIECES, then the other TREE", BoundaryTests::wayFromASide);
        test("RIGHT if it is ON the LINE", BoundaryTests::wayFromALine);
        test("So all PIECES come, one behind the other", BoundaryTests::allPiecesCome);
    }

    private static void whatStays() {
        test("The TREE is always that of the WALLS that are there", BoundaryTests::treeOfTheWallsThatAreThere);
        test("What answers false or NONE changes nothing", BoundaryTests::refusedCallsChangeNothing);
        test("What answers false or NONE changes nothing (full)", BoundaryTests::refusedPutWhenFull);
    }

    private static void theCallsThatChange() {
        test("Promise 1: No WALLS", BoundaryTests::newObject);
        test("Promise 2: NONE if a number is none, both ends are one place, there are 64, or ..", BoundaryTests::putRefused);
        test("Promise 3: false if there is none such", BoundaryTests::takeRefused);
        test("Promise 4: No WALLS", BoundaryTests::cleared);
    }

    private static void theCallsThatAsk() {
        test("Promise 5: NONE if that is a LEAF", BoundaryTests::nodeBesideLeaf);
        test("Promise 5: how many NODES it has in all, with itself; how many are around it", BoundaryTests::nodeCounts);
        test("Promise 5: NONE if there is none such, or no such what", BoundaryTests::nodeRefused);
        test("Promise 6: from 0 on; NONE if there is none such", BoundaryTests::wallRefused);
        test("Promise 7: in least terms", BoundaryTests::leastTerms);
        test("Promise 7: in least terms (above 2 to the 31st)", BoundaryTests::largeQuotients);
        test("Promise 7: NONE if there is none such", BoundaryTests::quotientRefused);
        test("Promise 8: ON a LINE it goes RIGHT", BoundaryTests::leafOnALine);
        test("Promise 8: a place (-32768 .. 32767); NONE if it is none", BoundaryTests::leafRefused);
        test("Promise 9: is told from now on: how many PIECES", BoundaryTests::wayFromNowOn);
        test("Promise 9: NONE, and the one before stays, if it is none", BoundaryTests::wayRefused);
        test("Promise 10: from 0 on (as the WALLS are now)", BoundaryTests::stepAsTheWallsAreNow);
        test("Promise 10: NONE without a WAY", BoundaryTests::stepWithoutAWay);
        test("Promise 10: NONE if there is none such, or no such what", BoundaryTests::stepRefused);
        test("Promise 11: how many PIECES it is in", BoundaryTests::ofPieces);
        test("Promise 11: 100000 if there is none such, or no such what", BoundaryTests::ofRefused);
        test("Promise 12: which 0 .. 5", BoundaryTests::lookAtAll);
        test("Promise 12: NONE for any other which", BoundaryTests::lookRefused);
    }

    // What the tests are made with.

    private static void test(String text, Runnable body) {
        sentence = text;
        tests++;
        body.run();
    }

    private static void due(String call, long got, long want) {
        if (got != want) {
            wrong++;
            System.out.println("\"" + sentence + "\": " + call + " answered " + got + ", due is " + want);
        }
    }

    private static void due(String call, boolean got, boolean want) {
        due(call, got ? 1 : 0, want ? 1 : 0);
    }

    private static void due(String call, long[] got, long... want) {
        due(call, Arrays.toString(got), Arrays.toString(want));
    }

    private static void due(String call, String got, String want) {
        if (!got.equals(want)) {
            wrong++;
            System.out.println("\"" + sentence + "\": " + call + " answered " + got + ", due is " + want);
        }
    }

    private static NodeMaker with(int[]... walls) {
        NodeMaker x = new NodeMaker();
        for (int i = 0; i < walls.length; i++) {
            due("put(" + Arrays.toString(walls[i]) + ")", put(x, walls[i]), i);
        }
        return x;
    }

    private static int[] w(int ax, int ay, int bx, int by) {
        return new int[] {ax, ay, bx, by};
    }

    private static int put(NodeMaker x, int[] wall) {
        return x.put(wall[0], wall[1], wall[2], wall[3]);
    }

    private static long[] looks(NodeMaker x) {
        return answers(6, x::look);
    }

    private static long[] nodes(NodeMaker x, int what) {
        return answers(x.look(1), k -> x.node(k, what));
    }

    private static long[] steps(NodeMaker x, int what) {
        return answers(x.look(3), i -> x.step(i, what));
    }

    private static long[] quotients(NodeMaker x, int k, int i) {
        return answers(4, which -> x.quotient(k, i, which));
    }

    private interface Asked {
        long answer(int i);
    }

    private static long[] answers(int count, Asked asked) {
        long[] all = new long[count];
        for (int i = 0; i < count; i++) {
            all[i] = asked.answer(i);
        }
        return all;
    }

    /** Everything that can be asked of an object with up to ten walls, in one text. */
    private static String everything(NodeMaker x) {
        StringBuilder all = new StringBuilder(Arrays.toString(looks(x)));
        for (int what = 0; what < 6; what++) {
            all.append(Arrays.toString(nodes(x, what)));
        }
        for (int k = 0; k < x.look(1); k++) {
            int node = k;
            all.append(Arrays.toString(answers(x.node(k, 3), i -> x.wall(node, i))));
            all.append(Arrays.toString(quotients(x, k, 0)));
        }
        for (int what = 0; what < 3; what++) {
            all.append(Arrays.toString(steps(x, what)));
        }
        for (int what = 0; what < 5; what++) {
            int asked = what;
            all.append(Arrays.toString(answers(10, wall -> x.of(wall, asked))));
        }
        return all.toString();
    }

    /** Numbers that none of the first so many bears. */
    private static int[] outside(int count) {
        return new int[] {-1, count, -2, count + 1, Integer.MIN_VALUE, Integer.MAX_VALUE};
    }

    /**
     * Six walls. The line of 1 is taken first and cuts 2 at 1/3, at the place (1, 1/3), where the line of 0
     * goes through too:
     * node 0 (1) has LEFT node 1 (0), which has LEFT node 2 (2, 0 to 1/3), which has LEFT node 3 (5);
     * and RIGHT node 4 (3), which has LEFT node 5 (2, 1/3 to 1) and RIGHT node 6 (4).
     */
    private static NodeMaker six() {
        return with(w(1, 5, 1, 6), w(5, 3, 8, 5), w(0, 0, 3, 1), w(6, 1, 6, 3), w(9, 2, 9, 4), w(-9, 9, -9, 10));
    }

    /** Walls one above the other: number i lies at heights[i]. */
    private static NodeMaker pile(int... heights) {
        int[][] walls = new int[heights.length][];
        for (int i = 0; i < heights.length; i++) {
            walls[i] = w(0, heights[i], 10, heights[i]);
        }
        return with(walls);
    }

    private static int[] fence(int number) {
        return w(10 * number, 0, 10 * number, 5);
    }

    private static NodeMaker full() {
        int[][] walls = new int[64][];
        for (int i = 0; i < 64; i++) {
            walls[i] = fence(i);
        }
        return with(walls);
    }

    // How long an object is used.

    private static NodeMaker after511Calls() {
        NodeMaker x = new NodeMaker();
        for (int round = 0; round < 100; round++) {
            due("put", x.put(0, 0, 10, 0), 0);
            due("way", x.way(5, 5), 1);
            due("step", x.step(0, 0), 0);
            due("look", x.look(1), 1);
            due("take", x.take(0), true);
        }
        due("put", x.put(0, 0, 10, 0), 0);
        due("put", x.put(20, -5, 20, 5), 1);
        due("put", x.put(30, 5, 30, -5), 2);
        due("put", x.put(10, 0, 12, 0), 3);
        due("way", x.way(15, 0), 4);
        due("looks", looks(x), 4, 3, 4, 4, 2, 0);
        return x;
    }

    private static void lastOf512Calls() {
        due("put", after511Calls().put(10, 0, 11, 5), 4);
        due("put", after511Calls().put(5, -1, 5, 1), -1);
        due("take", after511Calls().take(3), true);
        due("take", after511Calls().take(4), false);
        due("node", after511Calls().node(0, 2), 2);
        due("wall", after511Calls().wall(1, 1), 3);
        due("quotient", after511Calls().quotient(1, 0, 3), 1);
        due("leaf", after511Calls().leaf(40, 1), 2);
        due("way", after511Calls().way(0, 0), 4);
        due("step", after511Calls().step(3, 0), 2);
        due("of", after511Calls().of(1, 0), 20);
        due("look", after511Calls().look(4), 2);
        after511Calls().clear();
    }

    private static void full512Calls() {
        NodeMaker x = full();
        for (int round = 0; round < 149; round++) {
            int number = (round * 13) % 64;
            due("take(" + number + ")", x.take(number), true);
            due("look(1)", x.look(1), 63);
            due("put", put(x, fence(number)), number);
        }
        due("look(0), call 512", x.look(0), 64);
    }

    // The walls.

    private static void upTo64Walls() {
        NodeMaker x = full();
        due("look(0)", x.look(0), 64);
        due("put of a 65th", put(x, fence(64)), -1);
        due("take(63)", x.take(63), true);
        due("put of a 64th", put(x, fence(64)), 63);
        due("put of a 65th", put(x, fence(65)), -1);
        x.clear();
        for (int i = 0; i < 64; i++) {
            due("put after clear", put(x, fence(i + 100)), i);
        }
        due("put of a 65th", put(x, fence(0)), -1);
        due("look(0)", x.look(0), 64);
    }

    private static void leastNumber() {
        NodeMaker x = full();
        for (int number : new int[] {5, 3, 63, 4, 0, 31}) {
            x.take(number);
        }
        int next = 64;
        for (int number : new int[] {0, 3, 4, 5, 31, 63}) {
            due("put that is refused", x.put(10, 2, 20, 2), -1);
            due("put", put(x, fence(next)), number);
            due("of(" + number + ", 0)", x.of(number, 0), 10 * next);
            next++;
        }
        NodeMaker y = with(fence(0), fence(1), fence(2));
        y.take(1);
        due("put", put(y, fence(9)), 1);
        due("put", put(y, fence(10)), 3);
    }

    private static void anotherPlace() {
        int[][] places = {{0, 0}, {5, -7}, {LEAST, LEAST}, {GREATEST, GREATEST}, {LEAST, GREATEST}, {GREATEST, LEAST}};
        NodeMaker x = new NodeMaker();
        for (int[] p : places) {
            due("put from " + Arrays.toString(p) + " to itself", x.put(p[0], p[1], p[0], p[1]), -1);
        }
        due("look(0)", x.look(0), 0);
        int number = 0;
        for (int dx = -1; dx <= 1; dx++) {
            for (int dy = -1; dy <= 1; dy++) {
                if (dx != 0 || dy != 0) {
                    due("put(7, 7, " + (7 + dx) + ", " + (7 + dy) + ")", x.put(7, 7, 7 + dx, 7 + dy), number++);
                }
            }
        }
        due("put of the same x", x.put(100, 1, 100, 9), number++);
        due("put of the same y", x.put(101, 1, 109, 1), number);
    }

    private static void coordinates() {
        for (int which = 0; which < 4; which++) {
            for (int edge : new int[] {LEAST, LEAST + 1, GREATEST - 1, GREATEST}) {
                int[] wall = w(1, 2, 3, 5);
                wall[which] = edge;
                NodeMaker x = with(wall);
                due("of(0, " + which + ")", x.of(0, which), edge);
            }
            for (int beyond : BEYOND) {
                int[] wall = w(1, 2, 3, 5);
                wall[which] = beyond;
                NodeMaker x = new NodeMaker();
                due("put(" + Arrays.toString(wall) + ")", put(x, wall), -1);
                due("look(0)", x.look(0), 0);
            }
        }
        with(w(LEAST, LEAST, GREATEST, GREATEST));
        with(w(GREATEST, LEAST, LEAST, GREATEST));
    }

    /** The wall turned over and around in one of eight ways, larger by a factor, its ends exchanged or not. */
    private static int[] turned(int[] wall, int turn, int factor, boolean back) {
        int[] t = new int[4];
        for (int end = 0; end < 4; end += 2) {
            int x = factor * ((turn & 1) != 0 ? -wall[end] : wall[end]);
            int y = factor * ((turn & 2) != 0 ? -wall[end + 1] : wall[end + 1]);
            int to = back ? 2 - end : end;
            t[to] = (turn & 4) != 0 ? y : x;
            t[to + 1] = (turn & 4) != 0 ? x : y;
        }
        return t;
    }

    private static void pairs(int[] one, int[][] others, boolean fit) {
        for (int[] other : others) {
            for (int way = 0; way < 64; way++) {
                int factor = (way & 8) != 0 ? 2000 : 1;
                int[] a = turned(one, way & 7, factor, (way & 16) != 0);
                int[] b = turned(other, way & 7, factor, (way & 32) != 0);
                String both = Arrays.toString(a) + " and " + Arrays.toString(b);
                due("put of " + both, put(with(a), b), fit ? 1 : -1);
                due("put of " + both + ", the second first", put(with(b), a), fit ? 1 : -1);
            }
        }
    }

    private static void commonPlaces() {
        pairs(w(0, 0, 12, 6), new int[][] {
            {5, 0, 5, 5}, {0, 5, 12, 0}, {4, 2, 4, 9}, {4, 2, 4, -9}, {10, 5, 16, 5}, {0, 0, 12, 6}, {2, 1, 4, 2},
            {-2, -1, 14, 7}, {4, 2, 14, 7}, {0, 0, 4, 2}, {0, 0, 14, 7}, {12, 6, 10, 5}, {0, -3, 0, 3},
            {12, 3, 12, 9}, {-1, 1, 1, -1}, {11, 7, 13, 5},
        }, false);
        pairs(w(0, 0, 12, 0), new int[][] {
            {6, -1, 6, 1}, {6, 0, 6, 1}, {1, 0, 11, 0}, {0, 0, 1, 0}, {-1, 0, 1, 0}, {11, 0, 13, 0}, {0, -1, 0, 1},
        }, false);
        pairs(w(0, 0, 12, 6), new int[][] {
            {4, 3, 4, 9}, {5, 3, 5, 9}, {5, 2, 5, -9}, {14, 7, 16, 8}, {-2, -1, -4, -2}, {0, 1, 12, 7}, {1, 5, 7, 4},
            {13, 6, 14, 0}, {-1, 0, -1, 5}, {12, 7, 12, 9},
        }, true);
    }

    private static void commonEnds() {
        pairs(w(0, 0, 12, 6), new int[][] {
            {0, 0, 3, 7}, {0, 0, -5, 1}, {0, 0, 7, 0}, {0, 0, 0, 1}, {0, 0, -2, -1}, {0, 0, 11, 6}, {12, 6, 12, 9},
            {12, 6, 14, 7}, {12, 6, 0, 1}, {12, 6, 16, 0},
        }, true);
        NodeMaker star = new NodeMaker();
        for (int i = 0; i < 16; i++) {
            due("put of one more from one place", star.put(0, 0, 40, 5 * i - 38), i);
        }
        NodeMaker triangle = with(w(0, 0, 9, 0), w(9, 0, 4, 7), w(4, 7, 0, 0));
        due("look(0)", triangle.look(0), 3);
    }

    private static void commonPlacesWithAnyWall() {
        for (int number = 0; number < 64; number++) {
            NodeMaker x = full();
            x.take(number == 0 ? 63 : 0);
            due("put across " + number, x.put(10 * number - 1, 2, 10 * number + 1, 2), -1);
            due("look(0)", x.look(0), 63);
            due("take(" + number + ")", x.take(number), true);
            due("put where " + number + " was", x.put(10 * number - 1, 2, 10 * number + 1, 2) >= 0, true);
        }
        NodeMaker cleared = full();
        cleared.clear();
        due("put across all that were there", cleared.put(-5, 2, 700, 2), 0);
    }

    private static void commonPlacesFarApart() {
        NodeMaker x = with(w(LEAST, LEAST, GREATEST, GREATEST));
        due("put across", x.put(LEAST, GREATEST, GREATEST, LEAST), -1);
        due("put onto", x.put(GREATEST, LEAST, 0, 0), -1);
        due("put just before", x.put(GREATEST, LEAST, 1, 0), 1);
        due("put from end to end", x.put(LEAST, LEAST, LEAST, GREATEST), 2);
        NodeMaker thin = with(w(0, 0, GREATEST, GREATEST - 1));
        due("put that comes too near by the least", thin.put(GREATEST - 2, GREATEST - 2, GREATEST - 2, -5), -1);
        due("put that misses by the least", thin.put(GREATEST - 1, GREATEST - 2, GREATEST - 1, -5), 1);
        NodeMaker edges = with(w(LEAST, LEAST, GREATEST, LEAST), w(LEAST, GREATEST, GREATEST, GREATEST));
        due("put from edge to edge", edges.put(0, LEAST, 0, GREATEST), -1);
        due("put between the edges", edges.put(0, LEAST + 1, 0, GREATEST - 1), 2);
    }

    // The sides.

    private static void sides() {
        NodeMaker x = with(w(0, 0, 7, 5));
        due("leaf(4, 3), cross is 1", x.leaf(4, 3), 0);
        due("leaf(3, 2), cross is -1", x.leaf(3, 2), 1);
        due("leaf(14, 10), cross is 0", x.leaf(14, 10), 1);
        due("leaf(-7, -5), cross is 0", x.leaf(-7, -5), 1);
        NodeMaker back = with(w(7, 5, 0, 0));
        due("leaf(4, 3), cross is -1", back.leaf(4, 3), 1);
        due("leaf(3, 2), cross is 1", back.leaf(3, 2), 0);
        due("leaf(14, 10), cross is 0", back.leaf(14, 10), 1);
    }

    private static void largeSides() {
        NodeMaker low = with(w(LEAST, LEAST, GREATEST, LEAST));
        due("leaf above", low.leaf(LEAST, GREATEST), 0);
        NodeMaker back = with(w(GREATEST, LEAST, LEAST, LEAST));
        due("leaf above", back.leaf(LEAST, GREATEST), 1);
        NodeMaker slant = with(w(LEAST, LEAST, GREATEST, GREATEST - 1));
        due("leaf where cross is 1", slant.leaf(LEAST + 1, LEAST + 1), 0);
        due("leaf where cross is -1", slant.leaf(GREATEST - 1, GREATEST - 2), 1);
        due("leaf where cross is 0", slant.leaf(GREATEST, GREATEST - 1), 1);
        due("leaf far to the left", slant.leaf(LEAST, GREATEST), 0);
        due("leaf far to the right", slant.leaf(GREATEST, LEAST), 1);
    }

    // The pieces.

    private static void wholePieces() {
        NodeMaker x = six();
        for (int k : new int[] {0, 1, 3, 4, 6}) {
            due("quotient(" + k + ", 0, ..)", quotients(x, k, 0), 0, 1, 1, 1);
        }
        NodeMaker long1 = with(w(LEAST, LEAST, GREATEST, GREATEST));
        due("quotient(0, 0, ..)", quotients(long1, 0, 0), 0, 1, 1, 1);
    }

    private static void cutOfWholeWalls() {
        int[] flat = w(0, 0, 10, 0);
        // A line that cuts costs 4, so the other wall's line is taken, which costs 1; else the first of two is.
        due("node(0, 0), an end on the line", with(flat, w(20, 0, 20, 9)).node(0, 0), 0);
        due("node(0, 0), the other end on the line", with(flat, w(20, 9, 20, 0)).node(0, 0), 0);
        due("node(0, 0), from the line to the right", with(flat, w(20, 0, 20, -9)).node(0, 0), 0);
        due("node(0, 0), ends on both sides", with(flat, w(20, -1, 20, 9)).node(0, 0), 1);
        due("node(0, 0), ends on both sides", with(flat, w(20, 9, 20, -1)).node(0, 0), 1);
        due("node(0, 0), beside the line", with(flat, w(20, 1, 20, 9)).node(0, 0), 0);
        due("node(0, 0), common end", with(flat, w(10, 0, 20, 9)).node(0, 0), 0);
    }

    private static void endOfACutOnALine() {
        // Were the piece of 2 that ends at (1, 1/3) cut by the line of 0, that line would not be taken.
        NodeMaker x = six();
        due("node(.., 0)", nodes(x, 0), 1, 0, 2, 5, 3, 2, 4);
        due("look(5)", x.look(5), 1);
        due("node(1, 2)", x.node(1, 2), -1);
        // The same from the other side of that line.
        NodeMaker back = with(
            w(1, 6, 1, 5), w(5, 3, 8, 5), w(0, 0, 3, 1), w(6, 1, 6, 3), w(9, 2, 9, 4), w(-9, 9, -9, 10));
        due("node(.., 0)", nodes(back, 0), 1, 0, 2, 5, 3, 2, 4);
        due("look(5)", back.look(5), 1);
        due("node(1, 1)", back.node(1, 1), -1);
    }

    private static void firstAndSecond() {
        NodeMaker x = six();
        due("quotient(2, 0, ..)", quotients(x, 2, 0), 0, 1, 1, 3);
        due("quotient(5, 0, ..)", quotients(x, 5, 0), 1, 3, 1, 1);
        NodeMaker back = with(
            w(1, 5, 1, 6), w(5, 3, 8, 5), w(3, 1, 0, 0), w(6, 1, 6, 3), w(9, 2, 9, 4), w(-9, 9, -9, 10));
        due("node(.., 0)", nodes(back, 0), 1, 0, 2, 5, 3, 2, 4);
        due("quotient(2, 0, ..)", quotients(back, 2, 0), 2, 3, 1, 1);
        due("quotient(5, 0, ..)", quotients(back, 5, 0), 0, 1, 2, 3);
    }

    private static void largeProducts() {
        // The line of 0 cuts 2 near its lower end. Then the line of 1, near the upper one, would cut it again and
        // cost 7, so that of 2 is taken, which costs 4; were the lower cut mistaken to be above 1, 1 would cost 4.
        NodeMaker x = with(
            w(LEAST, -32760, GREATEST - 1, -32760), w(LEAST, 32760, GREATEST - 1, 32760),
            w(GREATEST, LEAST, GREATEST, GREATEST),
            w(0, -32764, 1, -32764), w(2, -32764, 3, -32764), w(4, -32764, 5, -32764),
            w(0, 32764, 1, 32764), w(2, 32764, 3, 32764), w(4, 32764, 5, 32764));
        due("node(0, 0)", x.node(0, 0), 0);
        due("node(1, 0)", x.node(1, 0), 2);
        due("quotient(1, 0, ..)", quotients(x, 1, 0), 8, 65535, 1, 1);
        due("looks", looks(x), 9, 6, 7, 10, 4, 1);
    }

    // The tree.

    private static void emptyTree() {
        NodeMaker x = new NodeMaker();
        due("looks", looks(x), 0, 0, 1, 0, 0, 0);
        due("leaf(0, 0)", x.leaf(0, 0), 0);
        due("leaf in a corner", x.leaf(LEAST, GREATEST), 0);
        due("node(0, 0)", x.node(0, 0), -1);
        x.put(0, 0, 10, 0);
        due("looks", looks(x), 1, 1, 2, 1, 1, 0);
        due("node(0, 1)", x.node(0, 1), -1);
        due("node(0, 2)", x.node(0, 2), -1);
        x.take(0);
        due("looks", looks(x), 0, 0, 1, 0, 0, 0);
        due("leaf(0, 0)", x.leaf(0, 0), 0);
    }

    private static void firstSixteen() {
        int[] heights = new int[33];
        for (int i = 0; i < 33; i++) {
            heights[i] = 10 * i;
        }
        NodeMaker x = pile(heights);
        due("node(0, 0), the 17th would be better", x.node(0, 0), 15);
        due("node(0, 4) of LEFT", x.node(x.node(0, 1), 4), 17);
        due("node(0, 4) of RIGHT", x.node(x.node(0, 2), 4), 15);
        due("node(1, 0), the first 16 of that LIST", x.node(1, 0), 24);
        x.take(0);
        due("node(0, 0), the first 16 that are there", x.node(0, 0), 16);
        heights[15] = 160;
        heights[16] = 150;
        NodeMaker y = pile(heights);
        due("node(0, 0), the 16th is best", y.node(0, 0), 15);
        due("node(0, 4) of LEFT", y.node(y.node(0, 1), 4), 16);
        due("node(0, 4) of RIGHT", y.node(y.node(0, 2), 4), 16);
    }

    private static void priceOfACut() {
        int[] flat = w(0, 0, 10, 0);
        int[] onIt = w(12, 0, 14, 0);
        int[] standing = w(20, -5, 20, 5);
        int[] above = w(5, 3, 5, 4);
        int[] below = w(5, -4, 5, -3);
        due("node(0, 0), one cut against a difference of 3", with(flat, standing, above, below).node(0, 0), 1);
        NodeMaker even = with(flat, standing, above, below, onIt);
        due("node(0, 0), one cut against a difference of 4, and before it", even.node(0, 0), 0);
        due("look(5)", even.look(5), 1);
        NodeMaker other = with(standing, flat, above, below, onIt);
        due("node(0, 0), one cut against a difference of 4, and behind it", other.node(0, 0), 0);
        due("look(5)", other.look(5), 0);
        NodeMaker five = with(standing, flat, above, below, onIt, w(15, 0, 16, 0));
        due("node(0, 0), one cut against a difference of 5", five.node(0, 0), 1);
        due("look(5)", five.look(5), 1);
    }

    private static void ofSeveralTheFirst() {
        due("node(0, 0) of two", pile(0, 10).node(0, 0), 0);
        due("node(0, 0) of two", pile(10, 0).node(0, 0), 0);
        NodeMaker four = pile(0, 20, 10, 30);
        due("node(.., 0) of four", nodes(four, 0), 1, 3, 0, 2);
        NodeMaker turned = pile(0, 10, 20, 30);
        due("node(.., 0) of four", nodes(turned, 0), 1, 2, 3, 0);
        turned.take(1);
        turned.put(0, 40, 10, 40);
        due("node(.., 0), by numbers and not by time", nodes(turned, 0), 2, 1, 3, 0);
    }

    private static void differenceOfBothKinds() {
        due("node(0, 0), more LEFT", pile(0, 10, 20).node(0, 0), 1);
        due("node(0, 0), more RIGHT", pile(20, 10, 0).node(0, 0), 1);
        NodeMaker back = with(w(10, 0, 0, 0), w(10, 10, 0, 10), w(10, 20, 0, 20));
        due("node(0, 0)", back.node(0, 0), 1);
        NodeMaker backDown = with(w(10, 20, 0, 20), w(10, 10, 0, 10), w(10, 0, 0, 0));
        due("node(0, 0)", backDown.node(0, 0), 1);
    }

    private static void onTheLine() {
        NodeMaker x = with(w(30, 30, 20, 20), w(5, 50, 5, 60), w(0, 0, 10, 10), w(10, 10, 40, 20), w(10, 10, 20, 20));
        due("node(.., 0)", nodes(x, 0), 0, 3, 1);
        due("node(.., 3)", nodes(x, 3), 3, 1, 1);
        due("wall(0, ..)", answers(4, i -> x.wall(0, i)), 0, 2, 4, -1);
        due("look(4)", x.look(4), 2);
    }

    private static void oneEndOnTheLine() {
        NodeMaker x = with(w(0, 0, 10, 0), w(10, 0, 20, 5), w(20, -5, 10, 0));
        due("node(.., 0)", nodes(x, 0), 0, 1, 2);
        due("node(0, 1)", x.node(0, 1), 1);
        due("node(0, 2)", x.node(0, 2), 2);
        due("look(5)", x.look(5), 0);
    }

    private static void piecesAtTheirPlaces() {
        // Behind the cut 2 comes before 5 in the LEFT list, and each of the two costs 1.
        due("node(2, 0)", six().node(2, 0), 2);
        due("node(3, 0)", six().node(3, 0), 5);
        // The same with the cut wall behind the other one.
        NodeMaker x = with(
            w(1, 5, 1, 6), w(5, 3, 8, 5), w(-9, 9, -9, 10), w(6, 1, 6, 3), w(9, 2, 9, 4), w(0, 0, 3, 1));
        due("node(.., 0)", nodes(x, 0), 1, 0, 2, 5, 3, 5, 4);
        due("wall(3, 0)", x.wall(3, 0), 5);
        due("node(2, 2), all lie RIGHT of it", x.node(2, 2), 3);
    }

    /** The chords of a parabola from left to right: each has all others on its left. */
    private static NodeMaker bowl(boolean back) {
        int[][] walls = new int[64][];
        for (int i = -32; i < 32; i++) {
            int[] chord = w(i, i * i, i + 1, (i + 1) * (i + 1));
            walls[i + 32] = turned(chord, 0, 1, back);
        }
        return with(walls);
    }

    private static void deepestTree() {
        NodeMaker x = bowl(false);
        due("looks", looks(x), 64, 64, 65, 64, 64, 0);
        due("node(.., 0)", nodes(x, 0), answers(64, k -> k));
        due("node(.., 1)", nodes(x, 1), answers(64, k -> k < 63 ? k + 1 : -1));
        due("node(.., 4)", nodes(x, 4), answers(64, k -> 64 - k));
        due("node(.., 5)", nodes(x, 5), answers(64, k -> k));
        due("leaf(0, 1024)", x.leaf(0, 1024), 0);
        due("leaf(0, -5)", x.leaf(0, -5), 34);
        x.way(0, 1024);
        due("step(.., 1)", steps(x, 1), answers(64, i -> 63 - i));
        x.way(0, -5);
        due("step(.., 1)", steps(x, 1), answers(64, i -> i < 4 ? 30 + i : i < 34 ? 67 - i : 63 - i));

        NodeMaker y = bowl(true);
        due("looks", looks(y), 64, 64, 65, 64, 64, 0);
        due("node(.., 1)", nodes(y, 1), answers(64, k -> -1));
        due("node(.., 2)", nodes(y, 2), answers(64, k -> k < 63 ? k + 1 : -1));
        due("leaf(0, 1024)", y.leaf(0, 1024), 64);
        due("leaf(0, -5)", y.leaf(0, -5), 30);
        y.way(0, 1024);
        due("step(63, 0)", y.step(63, 0), 0);
    }

    private static void manyPieces() {
        // Of 33 that lie, the one in the middle cuts all 31 that stand; the two halves have 16 each, so that
        // those that stand are again not weighed, and all are cut twice more; of 8 at most they are.
        int[][] walls = new int[64][];
        for (int i = 0; i < 33; i++) {
            int height = 10 * ((2 * i) % 33);
            walls[i] = w(0, height, 10, height);
        }
        for (int i = 33; i < 64; i++) {
            walls[i] = w(20 + i, -5, 20 + i, 330);
        }
        NodeMaker x = with(walls);
        due("looks 0, 1, 2, 3", answers(4, x::look), 64, 157, 158, 157);
        due("look(5)", x.look(5), 93);
        due("node(0, 0)", x.node(0, 0), 8);
        due("of(0 .. 63, 4)", answers(64, number -> x.of(number, 4)), answers(64, number -> number < 33 ? 1 : 4));
        due("way", x.way(0, 0), 157);
        due("step(156, 0)", x.step(156, 0) >= 0, true);
        due("step(157, 0)", x.step(157, 0), -1);
    }

    // The numbers.

    private static void nodeNumbers() {
        NodeMaker x = six();
        due("node(.., 1)", nodes(x, 1), 1, 2, 3, -1, 5, -1, -1);
        due("node(.., 2)", nodes(x, 2), 4, -1, -1, -1, 6, -1, -1);
        due("node(.., 3)", nodes(x, 3), 1, 1, 1, 1, 1, 1, 1);
    }

    private static void leafNumbers() {
        NodeMaker x = six();
        int[][] places = {{-10, 5}, {-5, 5}, {-5, -2}, {5, 5}, {5, 2}, {5, 0}, {7, 0}, {20, 0}};
        for (int i = 0; i < places.length; i++) {
            due("leaf(" + Arrays.toString(places[i]) + ")", x.leaf(places[i][0], places[i][1]), i);
        }
        due("look(2)", x.look(2), places.length);
    }

    // The way.

    private static void wayFromASide() {
        NodeMaker x = six();
        due("way(-10, 5)", x.way(-10, 5), 7);
        due("step(.., 1)", steps(x, 1), 3, 2, 1, 0, 5, 4, 6);
        due("step(.., 0)", steps(x, 0), 5, 2, 0, 1, 2, 3, 4);
        due("way(20, 0)", x.way(20, 0), 7);
        due("step(.., 1)", steps(x, 1), 6, 4, 5, 0, 1, 2, 3);
        NodeMaker line = with(w(0, 0, 10, 0), w(30, 0, 20, 0), w(0, 50, 10, 50), w(12, 0, 14, 0));
        line.way(5, 100);
        due("step(.., 0)", steps(line, 0), 2, 0, 1, 3);
        due("step(.., 2)", steps(line, 2), 0, 0, 1, 2);
        line.way(5, -100);
        due("step(.., 0)", steps(line, 0), 0, 1, 3, 2);
        due("step(.., 2), in their order from both sides", steps(line, 2), 0, 1, 2, 0);
    }

    private static void wayFromALine() {
        NodeMaker x = six();
        x.way(5, 3);
        due("step(.., 1), on node 0", steps(x, 1), 5, 4, 6, 0, 1, 3, 2);
        x.way(6, 0);
        due("step(.., 1), on node 4", steps(x, 1), 6, 4, 5, 0, 1, 2, 3);
        x.way(1, 5);
        due("step(.., 1), on node 1", steps(x, 1), 1, 3, 2, 0, 5, 4, 6);
    }

    private static void allPiecesCome() {
        NodeMaker x = six();
        for (int[] place : new int[][] {{0, 0}, {6, 2}, {-9, 9}, {LEAST, LEAST}, {GREATEST, GREATEST}, {1, 5}}) {
            due("way", x.way(place[0], place[1]), 7);
            long[] all = steps(x, 1);
            Arrays.sort(all);
            due("the nodes of the steps", all, 0, 1, 2, 3, 4, 5, 6);
            due("step(7, 1)", x.step(7, 1), -1);
        }
    }

    // What stays, and what does not.

    private static List<ToLongFunction<NodeMaker>> questions() {
        return Arrays.asList(
            x -> x.node(0, 0), x -> x.node(0, 1), x -> x.node(0, 2), x -> x.node(0, 3), x -> x.node(0, 4),
            x -> x.node(2, 5), x -> x.wall(0, 0), x -> x.wall(2, 0), x -> x.quotient(2, 0, 3), x -> x.quotient(5, 0, 1),
            x -> x.leaf(20, 0), x -> x.leaf(-5, -2), x -> x.way(-10, 5), x -> x.step(0, 0), x -> x.step(6, 1),
            x -> x.step(1, 2), x -> x.of(2, 4), x -> x.of(2, 0), x -> x.look(0), x -> x.look(1), x -> x.look(2),
            x -> x.look(3), x -> x.look(4), x -> x.look(5));
    }

    /** Each question is the first one after a change, when nothing else has brought the tree up to date. */
    private static void sameAs(String change, Consumer<NodeMaker> changes, Consumer<NodeMaker> fromTheStart) {
        int number = 0;
        for (ToLongFunction<NodeMaker> question : questions()) {
            NodeMaker x = six();
            x.way(20, 0);
            everything(x);
            changes.accept(x);
            NodeMaker y = new NodeMaker();
            fromTheStart.accept(y);
            y.way(20, 0);
            due("question " + number + " after " + change, question.applyAsLong(x), question.applyAsLong(y));
            number++;
        }
    }

    private static void treeOfTheWallsThatAreThere() {
        int[][] walls = {
            {1, 5, 1, 6}, {5, 3, 8, 5}, {0, 0, 3, 1}, {6, 1, 6, 3}, {9, 2, 9, 4}, {-9, 9, -9, 10}, {40, -50, 41, 60}};
        Consumer<NodeMaker> all = y -> {
            for (int[] wall : walls) {
                put(y, wall);
            }
        };
        sameAs("put", x -> put(x, walls[6]), all);
        sameAs("take", x -> x.take(1), y -> {
            all.accept(y);
            y.take(6);
            y.take(1);
        });
        sameAs("clear", NodeMaker::clear, y -> { });
        sameAs("take and put", x -> {
            x.take(2);
            x.put(3, 1, 0, 0);
        }, y -> {
            all.accept(y);
            y.take(6);
            y.take(2);
            y.put(3, 1, 0, 0);
        });
        NodeMaker x = six();
        due("look(5)", x.look(5), 1);
        x.take(1);
        due("looks without the wall that cut", looks(x), 5, 5, 6, 5, 4, 0);
        x.put(5, 3, 8, 5);
        due("looks with it", looks(x), 6, 7, 8, 7, 4, 1);
    }

    private static List<ToLongFunction<NodeMaker>> refusals() {
        List<ToLongFunction<NodeMaker>> all = new ArrayList<>(Arrays.asList(
            x -> x.put(7, 7, 7, 7), x -> x.put(0, 0, 3, 1), x -> x.put(3, 1, 0, 0), x -> x.put(6, 2, 8, 2),
            x -> x.put(0, 5, 2, 6), x -> x.put(1, 5, 1, 7), x -> x.take(6) ? 1 : -1, x -> x.take(63) ? 1 : -1));
        for (int beyond : BEYOND) {
            all.add(x -> x.put(beyond, 70, 71, 72));
            all.add(x -> x.put(70, beyond, 71, 72));
            all.add(x -> x.put(70, 71, beyond, 72));
            all.add(x -> x.put(70, 71, 72, beyond));
            all.add(x -> x.leaf(beyond, 0));
            all.add(x -> x.leaf(0, beyond));
            all.add(x -> x.way(beyond, 0));
            all.add(x -> x.way(0, beyond));
        }
        for (int none : outside(64)) {
            all.add(x -> x.take(none) ? 1 : -1);
            all.add(x -> x.node(none, 0));
            all.add(x -> x.node(0, none));
            all.add(x -> x.wall(none, 0));
            all.add(x -> x.wall(0, none));
            all.add(x -> x.quotient(none, 0, 0));
            all.add(x -> x.quotient(0, none, 0));
            all.add(x -> x.quotient(0, 0, none));
            all.add(x -> x.step(none, 0));
            all.add(x -> x.step(0, none));
            all.add(x -> x.of(none, 0) == 100000 ? -1 : 1);
            all.add(x -> x.of(0, none) == 100000 ? -1 : 1);
            all.add(x -> x.look(none));
        }
        return all;
    }

    private static void refusedCallsChangeNothing() {
        NodeMaker untouched = six();
        untouched.way(20, 0);
        String before = everything(untouched);
        String withoutAWay = everything(six());
        int number = 0;
        for (ToLongFunction<NodeMaker> refusal : refusals()) {
            NodeMaker x = six();
            x.way(20, 0);
            due("refusal " + number, refusal.applyAsLong(x), -1);
            due("everything after refusal " + number, everything(x), before);
            due("put after refusal " + number, x.put(60, 60, 61, 61), 6);
            NodeMaker y = six();
            due("refusal " + number + " without a way", refusal.applyAsLong(y), -1);
            due("everything after refusal " + number + " without a way", everything(y), withoutAWay);
            number++;
        }
    }

    private static void refusedPutWhenFull() {
        NodeMaker x = full();
        due("put", put(x, fence(64)), -1);
        due("put", x.put(3, 3, 3, 4), -1);
        due("looks", answers(4, x::look), 64, 64, 65, 64);
        due("of(.., 0)", answers(64, number -> x.of(number, 0)), answers(64, number -> 10 * number));
        due("take(20)", x.take(20), true);
        due("put", put(x, fence(64)), 20);
    }

    // The calls that change.

    private static void newObject() {
        NodeMaker x = new NodeMaker();
        due("looks", looks(x), 0, 0, 1, 0, 0, 0);
        due("of(.., 0)", answers(64, number -> x.of(number, 0)), answers(64, number -> 100000));
        due("take(0)", x.take(0), false);
        due("step(0, 0)", x.step(0, 0), -1);
        due("way(0, 0)", x.way(0, 0), 0);
        due("put", x.put(1, 1, 2, 2), 0);
        due("look(0) of another one", new NodeMaker().look(0), 0);
        due("NONE", NodeMaker.NONE, -1);
    }

    private static void putRefused() {
        NodeMaker x = full();
        due("put, a number is none and there are 64", x.put(GREATEST + 1, 0, 0, 0), -1);
        due("put, one place and there are 64", x.put(5, 50, 5, 50), -1);
        due("put, common places and there are 64", x.put(0, 2, 9, 2), -1);
        due("put, there are 64", x.put(1, 50, 2, 50), -1);
        x.take(40);
        due("put, a number is none", x.put(GREATEST + 1, 0, 0, 50), -1);
        due("put, one place", x.put(5, 50, 5, 50), -1);
        due("put, common places", x.put(0, 2, 9, 2), -1);
        due("put", x.put(1, 50, 2, 50), 40);
        due("put, one place and an end of both", x.put(1, 50, 1, 50), -1);
    }

    private static void takeRefused() {
        NodeMaker x = six();
        for (int none : outside(6)) {
            due("take(" + none + ")", x.take(none), false);
        }
        due("take(63)", x.take(63), false);
        due("take(64)", x.take(64), false);
        due("take(5)", x.take(5), true);
        due("take(5) again", x.take(5), false);
        due("take(0)", x.take(0), true);
        due("take(0) again", x.take(0), false);
        due("look(0)", x.look(0), 4);
        NodeMaker y = full();
        due("take(63)", y.take(63), true);
        due("take(64)", y.take(64), false);
        due("take(-1)", y.take(-1), false);
        due("look(0)", y.look(0), 63);
    }

    private static void cleared() {
        NodeMaker x = full();
        due("look(1)", x.look(1), 64);
        x.clear();
        due("looks", looks(x), 0, 0, 1, 0, 0, 0);
        due("of(63, 0)", x.of(63, 0), 100000);
        due("take(0)", x.take(0), false);
        x.clear();
        due("looks of the empty one", looks(x), 0, 0, 1, 0, 0, 0);
        due("put", put(x, fence(3)), 0);
        due("looks", looks(x), 1, 1, 2, 1, 1, 0);
    }

    // The calls that ask.

    private static void nodeBesideLeaf() {
        NodeMaker x = with(w(0, 0, 10, 0));
        due("node(0, 1)", x.node(0, 1), -1);
        due("node(0, 2)", x.node(0, 2), -1);
        x.put(0, 10, 10, 10);
        due("node(0, 1)", x.node(0, 1), 1);
        due("node(0, 2)", x.node(0, 2), -1);
        NodeMaker y = pile(0, -10);
        due("node(0, 1)", y.node(0, 1), -1);
        due("node(0, 2)", y.node(0, 2), 1);
    }

    private static void nodeCounts() {
        NodeMaker x = six();
        due("node(.., 4)", nodes(x, 4), 7, 3, 2, 1, 3, 1, 1);
        due("node(.., 5)", nodes(x, 5), 0, 1, 2, 3, 1, 2, 2);
    }

    private static void nodeRefused() {
        NodeMaker x = six();
        for (int what = 0; what < 6; what++) {
            due("node(6, " + what + ")", x.node(6, what) >= (what == 1 || what == 2 ? -1 : 0), true);
            for (int none : outside(7)) {
                due("node(" + none + ", " + what + ")", x.node(none, what), -1);
            }
        }
        for (int k = 0; k < 7; k++) {
            for (int none : outside(6)) {
                due("node(" + k + ", " + none + ")", x.node(k, none), -1);
            }
        }
    }

    private static void wallRefused() {
        NodeMaker x = with(w(0, 0, 10, 0), w(30, 0, 20, 0), w(0, 50, 10, 50), w(12, 0, 14, 0));
        due("wall(0, 0)", x.wall(0, 0), 0);
        due("wall(0, 2), the last", x.wall(0, 2), 3);
        for (int none : outside(3)) {
            due("wall(0, " + none + ")", x.wall(0, none), -1);
        }
        due("wall(1, 0)", x.wall(1, 0), 2);
        for (int none : outside(1)) {
            due("wall(1, " + none + ")", x.wall(1, none), -1);
        }
        for (int none : outside(2)) {
            due("wall(" + none + ", 0)", x.wall(none, 0), -1);
        }
        due("wall(0, 0) of none", new NodeMaker().wall(0, 0), -1);
    }

    private static void leastTerms() {
        // The line of 0 cuts 1 between three above and three below, and costs 4; theirs cost 5, that of 1 costs 7.
        int[][] parts = {{10, 1, 6}, {15, 1, 4}, {20, 1, 3}, {30, 1, 2}, {24, 2, 5}, {59, 59, 60}, {1, 1, 60}, {7, 7, 60}};
        for (int[] part : parts) {
            NodeMaker x = with(w(0, part[0], 10, part[0]), w(20, 0, 20, 60),
                w(0, 70, 1, 70), w(2, 70, 3, 70), w(4, 70, 5, 70), w(0, -70, 1, -70), w(2, -70, 3, -70), w(4, -70, 5, -70));
            due("node(.., 0)", nodes(x, 0), 0, 2, 1, 5, 1);
            due("quotient(2, 0, ..)", quotients(x, 2, 0), part[1], part[2], 1, 1);
            due("quotient(4, 0, ..)", quotients(x, 4, 0), 0, 1, part[1], part[2]);
        }
    }

    private static void largeQuotients() {
        NodeMaker x = with(w(LEAST, 3, GREATEST - 1, 4), w(GREATEST, LEAST, GREATEST, GREATEST),
            w(0, 100, 1, 100), w(0, 200, 1, 200), w(0, 300, 1, 300),
            w(0, -100, 1, -100), w(0, -200, 1, -200), w(0, -300, 1, -300));
        due("node(.., 0)", nodes(x, 0), 0, 1, 3, 4, 2, 1, 6, 5, 7);
        due("quotient(1, 0, ..)", quotients(x, 1, 0), 2147680249L, 4294770690L, 1, 1);
        due("quotient(5, 0, ..)", quotients(x, 5, 0), 0, 1, 2147680249L, 4294770690L);
    }

    private static void quotientRefused() {
        NodeMaker x = six();
        for (int which = 0; which < 4; which++) {
            for (int none : outside(7)) {
                due("quotient(" + none + ", 0, " + which + ")", x.quotient(none, 0, which), -1);
            }
            for (int none : outside(1)) {
                due("quotient(6, " + none + ", " + which + ")", x.quotient(6, none, which), -1);
            }
        }
        for (int none : outside(4)) {
            due("quotient(2, 0, " + none + ")", x.quotient(2, 0, none), -1);
        }
        due("quotient(0, 0, 0) of none", new NodeMaker().quotient(0, 0, 0), -1);
    }

    private static void leafOnALine() {
        NodeMaker x = six();
        due("leaf(1, 5), on node 1", x.leaf(1, 5), 3);
        due("leaf(6, 0), on node 4", x.leaf(6, 0), 6);
        due("leaf(9, 0), on node 6", x.leaf(9, 0), 7);
        due("leaf(5, 3), on node 0", x.leaf(5, 3), 4);
        due("leaf(3, 1), on node 5", x.leaf(3, 1), 5);
        due("leaf(-9, 9), on node 3", x.leaf(-9, 9), 1);
        due("leaf(-6, -2), on node 2", x.leaf(-6, -2), 2);
    }

    private static void leafRefused() {
        NodeMaker x = with(w(0, 0, 10, 0));
        for (int edge : new int[] {LEAST, GREATEST}) {
            due("leaf(" + edge + ", 1)", x.leaf(edge, 1), 0);
            due("leaf(1, " + edge + ")", x.leaf(1, edge), edge > 0 ? 0 : 1);
            due("leaf(" + edge + ", " + edge + ")", x.leaf(edge, edge), edge > 0 ? 0 : 1);
        }
        for (int beyond : BEYOND) {
            due("leaf(" + beyond + ", 0)", x.leaf(beyond, 0), -1);
            due("leaf(0, " + beyond + ")", x.leaf(0, beyond), -1);
            due("leaf(" + beyond + ", 0) of none", new NodeMaker().leaf(beyond, 0), -1);
        }
    }

    private static void wayFromNowOn() {
        NodeMaker x = pile(0, 10, 20);
        due("way(5, 30)", x.way(5, 30), 3);
        due("step(.., 0)", steps(x, 0), 2, 1, 0);
        due("way(5, -10)", x.way(5, -10), 3);
        due("step(.., 0)", steps(x, 0), 0, 1, 2);
        due("leaf does not change it", x.leaf(5, 30), 0);
        due("step(0, 0)", x.step(0, 0), 0);
        for (int edge : new int[] {LEAST, GREATEST}) {
            due("way(0, " + edge + ")", x.way(0, edge), 3);
            due("step(0, 0)", x.step(0, 0), edge > 0 ? 2 : 0);
            due("way(" + edge + ", 0)", x.way(edge, 0), 3);
        }
        due("way(0, 0) of none", new NodeMaker().way(0, 0), 0);
    }

    private static void wayRefused() {
        NodeMaker x = pile(0, 10, 20);
        for (int beyond : BEYOND) {
            due("way(" + beyond + ", 0)", x.way(beyond, 0), -1);
            due("step(0, 0), there was none before", x.step(0, 0), -1);
        }
        x.way(5, 30);
        for (int beyond : BEYOND) {
            due("way(" + beyond + ", -10)", x.way(beyond, -10), -1);
            due("way(5, " + beyond + ")", x.way(5, beyond), -1);
            due("step(.., 0), the one before stays", steps(x, 0), 2, 1, 0);
        }
    }

    private static void stepAsTheWallsAreNow() {
        NodeMaker x = new NodeMaker();
        due("way(5, 30)", x.way(5, 30), 0);
        due("step(0, 0)", x.step(0, 0), -1);
        x.put(0, 0, 10, 0);
        due("step(0, 0), a wall that came later", x.step(0, 0), 0);
        x.put(0, 10, 10, 10);
        due("step(.., 0)", steps(x, 0), 1, 0);
        x.take(1);
        due("step(0, 0)", x.step(0, 0), 0);
        due("step(1, 0)", x.step(1, 0), -1);
        x.clear();
        due("step(0, 0)", x.step(0, 0), -1);
    }

    private static void stepWithoutAWay() {
        NodeMaker x = six();
        for (int i = -1; i < 8; i++) {
            for (int what = -1; what < 4; what++) {
                due("step(" + i + ", " + what + ")", x.step(i, what), -1);
            }
        }
    }

    private static void stepRefused() {
        NodeMaker x = six();
        x.way(20, 0);
        for (int what = 0; what < 3; what++) {
            due("step(6, " + what + ")", x.step(6, what) >= 0, true);
            for (int none : outside(7)) {
                due("step(" + none + ", " + what + ")", x.step(none, what), -1);
            }
        }
        for (int none : outside(3)) {
            due("step(0, " + none + ")", x.step(0, none), -1);
            due("step(6, " + none + ")", x.step(6, none), -1);
        }
    }

    private static void ofPieces() {
        NodeMaker x = six();
        due("of(.., 4)", answers(7, number -> x.of(number, 4)), 1, 1, 2, 1, 1, 1, 100000);
        x.take(1);
        due("of(2, 4), as the walls are now", x.of(2, 4), 1);
        due("of(1, 4)", x.of(1, 4), 100000);
    }

    private static void ofRefused() {
        NodeMaker x = with(w(-1, LEAST, GREATEST, -1));
        due("of(0, ..)", answers(5, what -> x.of(0, what)), -1, LEAST, GREATEST, -1, 1);
        for (int what = 0; what < 5; what++) {
            for (int none : outside(1)) {
                due("of(" + none + ", " + what + ")", x.of(none, what), 100000);
            }
            due("of(63, " + what + ")", x.of(63, what), 100000);
            due("of(64, " + what + ")", x.of(64, what), 100000);
        }
        for (int none : outside(5)) {
            due("of(0, " + none + ")", x.of(0, none), 100000);
        }
    }

    private static void lookAtAll() {
        due("looks", looks(six()), 6, 7, 8, 7, 4, 1);
        due("looks of a pile", looks(pile(0, 10, 20)), 3, 3, 4, 3, 2, 0);
        due("looks of one line", looks(with(w(0, 0, 1, 0), w(1, 0, 2, 0), w(5, 0, 3, 0))), 3, 1, 2, 3, 1, 0);
    }

    private static void lookRefused() {
        for (NodeMaker x : new NodeMaker[] {new NodeMaker(), six(), full()}) {
            for (int none : outside(6)) {
                due("look(" + none + ")", x.look(none), -1);
            }
        }
    }
}
