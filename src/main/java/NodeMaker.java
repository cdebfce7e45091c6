import java.util.Arrays;

/** A tree that divides a plane by the lines of walls that do not cross. */
public final class NodeMaker {
    public static final int NONE = -1;

    private static final int NO_SUCH_WALL = 100000;
    private static final int LEAST = -32768;
    private static final int GREATEST = 32767;
    private static final int MOST_WALLS = 64;
    // A wall meets each other wall's line at most once, so that no wall ends up in more than 64 pieces.
    private static final int MOST_PIECES = MOST_WALLS * MOST_WALLS;
    private static final int LINES_WEIGHED = 16;
    private static final int PRICE_OF_A_CUT = 4;

    // Where a piece lies is the sum of where its ends lie: LEFT and RIGHT together are CUT.
    private static final int ON = 0;
    private static final int LEFT = 1;
    private static final int RIGHT = 2;
    private static final int CUT = LEFT | RIGHT;

    private final Tree tree;
    private boolean hasWay;
    private int wayX;
    private int wayY;

    public NodeMaker() {
        tree = new Tree();
    }

    public int put(int ax, int ay, int bx, int by) {
        if (!isPlace(ax, ay) || !isPlace(bx, by) || (ax == bx && ay == by)) {
            return NONE;
        }
        return tree.addWall(new Wall(ax, ay, bx, by));
    }

    public boolean take(int wall) {
        return tree.dropWall(wall);
    }

    public void clear() {
        tree.dropAllWalls();
    }

    public int node(int k, int what) {
        tree.grow();
        if (!tree.hasNode(k)) {
            return NONE;
        }
        switch (what) {
            case 0:
                return tree.lineOf(k);
            case 1:
                return tree.leftOf(k);
            case 2:
                return tree.rightOf(k);
            case 3:
                return tree.ownPieces(k);
            case 4:
                return tree.nodesIn(k);
            case 5:
                return tree.depthOf(k);
            default:
                return NONE;
        }
    }

    public int wall(int k, int i) {
        tree.grow();
        return tree.wallOfPiece(tree.pieceAt(k, i));
    }

    public long quotient(int k, int i, int which) {
        tree.grow();
        int piece = tree.pieceAt(k, i);
        if (piece == NONE || which < 0 || which > 3) {
            return NONE;
        }
        return tree.quotientOf(piece, which >= 2, which % 2 == 0);
    }

    public int leaf(int x, int y) {
        if (!isPlace(x, y)) {
            return NONE;
        }
        tree.grow();
        return tree.leafAround(x, y);
    }

    public int way(int x, int y) {
        if (!isPlace(x, y)) {
            return NONE;
        }
        hasWay = true;
        wayX = x;
        wayY = y;
        tree.grow();
        return tree.pieceCount();
    }

    public int step(int i, int what) {
        if (!hasWay) {
            return NONE;
        }
        tree.grow();
        int piece = tree.pieceOnWay(wayX, wayY, i);
        switch (what) {
            case 0:
                return tree.wallOfPiece(piece);
            case 1:
                return tree.nodeOfPiece(piece);
            case 2:
                return tree.placeInNode(piece);
            default:
                return NONE;
        }
    }

    public int of(int wall, int what) {
        Wall found = tree.wallAt(wall);
        if (found == null) {
            return NO_SUCH_WALL;
        }
        switch (what) {
            case 0:
                return found.ax;
            case 1:
                return found.ay;
            case 2:
                return found.bx;
            case 3:
                return found.by;
            case 4:
                tree.grow();
                return tree.piecesOfWall(wall);
            default:
                return NO_SUCH_WALL;
        }
    }

    public int look(int which) {
        tree.grow();
        switch (which) {
            case 0:
                return tree.wallCount();
            case 1:
                return tree.nodeCount();
            case 2:
                // Each node has two trees, so there is always one leaf more.
                return tree.nodeCount() + 1;
            case 3:
                return tree.pieceCount();
            case 4:
                return tree.height();
            case 5:
                // Each cut makes one piece more.
                return tree.pieceCount() - tree.wallCount();
            default:
                return NONE;
        }
    }

    private static boolean isPlace(int x, int y) {
        return x >= LEAST && x <= GREATEST && y >= LEAST && y <= GREATEST;
    }

    /** A wall from A to B. */
    private static final class Wall {
        private final int ax;
        private final int ay;
        private final int bx;
        private final int by;

        Wall(int ax, int ay, int bx, int by) {
            this.ax = ax;
            this.ay = ay;
            this.bx = bx;
            this.by = by;
        }

        /**
         * Above 0 LEFT of the line, below 0 RIGHT of it, 0 ON it. It is twice the area of a
         * triangle that lies in the plane's square, so it is at most 65535 * 65535.
         */
        long side(int x, int y) {
            return (long) (bx - ax) * (y - ay) - (long) (by - ay) * (x - ax);
        }

        boolean hasEnd(int x, int y) {
            return (x == ax && y == ay) || (x == bx && y == by);
        }

        /** Whether the place lies on the wall, but at none of its ends. */
        boolean hasWithin(int x, int y) {
            return side(x, y) == 0 && !hasEnd(x, y)
                && x >= Math.min(ax, bx) && x <= Math.max(ax, bx)
                && y >= Math.min(ay, by) && y <= Math.max(ay, by);
        }

        boolean parts(Wall other) {
            long a = side(other.ax, other.ay);
            long b = side(other.bx, other.by);
            return (a > 0 && b < 0) || (a < 0 && b > 0);
        }

        /** Whether the two have a place in common that is not an end of both. */
        boolean clashes(Wall other) {
            if (hasEnd(other.ax, other.ay) && hasEnd(other.bx, other.by)) {
                return true;
            }
            return (parts(other) && other.parts(this))
                || hasWithin(other.ax, other.ay) || hasWithin(other.bx, other.by)
                || other.hasWithin(ax, ay) || other.hasWithin(bx, by);
        }
    }

    /** The walls by their numbers. */
    private static final class Walls {
        private final Wall[] slots = new Wall[MOST_WALLS];
        private int count;

        int count() {
            return count;
        }

        Wall at(int number) {
            return number >= 0 && number < MOST_WALLS ? slots[number] : null;
        }

        int add(Wall wall) {
            int free = NONE;
            for (int i = MOST_WALLS - 1; i >= 0; i--) {
                Wall other = slots[i];
                if (other == null) {
                    free = i;
                } else if (other.clashes(wall)) {
                    return NONE;
                }
            }
            if (free != NONE) {
                slots[free] = wall;
                count++;
            }
            return free;
        }

        boolean drop(int number) {
            if (at(number) == null) {
                return false;
            }
            slots[number] = null;
            count--;
            return true;
        }

        void dropAll() {
            for (int i = 0; i < MOST_WALLS; i++) {
                slots[i] = null;
            }
            count = 0;
        }
    }

    /** A row of numbers that is used again for each tree; outside of it there is NONE. */
    private static final class Row {
        private int[] cells = new int[MOST_WALLS];
        private int count;

        int count() {
            return count;
        }

        int at(int i) {
            return i >= 0 && i < count ? cells[i] : NONE;
        }

        void set(int i, int value) {
            if (i >= 0 && i < count) {
                cells[i] = value;
            }
        }

        void add(int value) {
            if (count >= MOST_PIECES) {
                return;
            }
            if (count >= cells.length) {
                cells = Arrays.copyOf(cells, 2 * cells.length);
            }
            cells[count] = value;
            count++;
        }

        void shorten(int length) {
            if (length >= 0 && length < count) {
                count = length;
            }
        }
    }

    /**
     * A list of pieces. An end of a piece is held as the wall whose line cut it there, NONE where
     * it is the wall's own end: so no quotient is ever rounded, nor reduced before it is asked for.
     */
    private static final class Pieces {
        private final Row walls = new Row();
        private final Row firstCutters = new Row();
        private final Row lastCutters = new Row();

        int count() {
            return walls.count();
        }

        int wallAt(int i) {
            return walls.at(i);
        }

        int firstAt(int i) {
            return firstCutters.at(i);
        }

        int lastAt(int i) {
            return lastCutters.at(i);
        }

        void add(int wall, int first, int last) {
            walls.add(wall);
            firstCutters.add(first);
            lastCutters.add(last);
        }

        void set(int i, int wall, int first, int last) {
            walls.set(i, wall);
            firstCutters.set(i, first);
            lastCutters.set(i, last);
        }

        void shorten(int length) {
            walls.shorten(length);
            firstCutters.shorten(length);
            lastCutters.shorten(length);
        }
    }

    /** The walls and their tree, whose nodes and pieces lie in the order of the nodes' numbers. */
    private static final class Tree {
        private final Walls walls = new Walls();
        private final Row lines = new Row();
        private final Row lefts = new Row();
        private final Row rights = new Row();
        private final Row sizes = new Row();
        private final Row depths = new Row();
        private final Row firstPieces = new Row();
        private final Pieces pieces = new Pieces();
        private final Row homes = new Row();
        // The lists that still wait for their trees, one upon the other.
        private final Pieces waiting = new Pieces();
        private final Row listStarts = new Row();
        private final Row listParents = new Row();
        private final Row listSides = new Row();
        private final Pieces leftList = new Pieces();
        private int height;
        // The tree is made only when it is asked for, as many walls may come and go before.
        private boolean stale;

        Wall wallAt(int number) {
            return walls.at(number);
        }

        int wallCount() {
            return walls.count();
        }

        int addWall(Wall wall) {
            int number = walls.add(wall);
            stale = stale || number != NONE;
            return number;
        }

        boolean dropWall(int number) {
            boolean dropped = walls.drop(number);
            stale = stale || dropped;
            return dropped;
        }

        void dropAllWalls() {
            walls.dropAll();
            stale = true;
        }

        void grow() {
            if (!stale) {
                return;
            }
            fell();
            for (int i = 0; i < MOST_WALLS; i++) {
                if (walls.at(i) != null) {
                    waiting.add(i, NONE, NONE);
                }
            }
            if (waiting.count() > 0) {
                await(0, NONE, LEFT);
            }
            // Each turn makes a node, which has a piece at least.
            for (int turn = 0; turn < MOST_PIECES && listStarts.count() > 0; turn++) {
                plantNext();
            }
            countSizes();
            stale = false;
        }

        private void fell() {
            lines.shorten(0);
            lefts.shorten(0);
            rights.shorten(0);
            sizes.shorten(0);
            depths.shorten(0);
            firstPieces.shorten(0);
            pieces.shorten(0);
            homes.shorten(0);
            waiting.shorten(0);
            listStarts.shorten(0);
            listParents.shorten(0);
            listSides.shorten(0);
            height = 0;
        }

        private void await(int from, int parent, int side) {
            listStarts.add(from);
            listParents.add(parent);
            listSides.add(side);
        }

        /** Makes the first node of the uppermost list that waits, and leaves that node's lists waiting. */
        private void plantNext() {
            int top = listStarts.count() - 1;
            int from = listStarts.at(top);
            int parent = listParents.at(top);
            int k = lines.count();
            if (listSides.at(top) == LEFT) {
                lefts.set(parent, k);
            } else {
                rights.set(parent, k);
            }
            listStarts.shorten(top);
            listParents.shorten(top);
            listSides.shorten(top);
            int depth = hasNode(parent) ? depths.at(parent) + 1 : 0;
            int line = bestLine(from);
            lines.add(line);
            depths.add(depth);
            firstPieces.add(pieces.count());
            lefts.add(NONE);
            rights.add(NONE);
            sizes.add(1);
            height = Math.max(height, depth + 1);
            int leftFrom = divide(from, line, k);
            if (leftFrom > from) {
                await(from, k, RIGHT);
            }
            if (waiting.count() > leftFrom) {
                await(leftFrom, k, LEFT);
            }
        }

        private void countSizes() {
            // A node's trees bear greater numbers than it does, so theirs are known before its own.
            for (int k = lines.count() - 1; k >= 0; k--) {
                sizes.set(k, 1 + nodesIn(lefts.at(k)) + nodesIn(rights.at(k)));
            }
        }

        private int bestLine(int from) {
            int end = waiting.count();
            int best = NONE;
            int least = 0;
            for (int i = from; i < end && i < from + LINES_WEIGHED; i++) {
                int line = waiting.wallAt(i);
                int cuts = 0;
                int balance = 0;
                for (int j = from; j < end; j++) {
                    int where = whereLies(line, j);
                    cuts += where == CUT ? 1 : 0;
                    balance += (where & LEFT) != 0 ? 1 : 0;
                    balance -= (where & RIGHT) != 0 ? 1 : 0;
                }
                int price = PRICE_OF_A_CUT * cuts + Math.abs(balance);
                if (best == NONE || price < least) {
                    least = price;
                    best = line;
                }
            }
            return best;
        }

        /**
         * Divides the list that waits from an index on: a node gets its pieces, the RIGHT list
         * waits in its stead, and the LEFT list upon it, from the index on that is answered.
         */
        private int divide(int from, int line, int k) {
            int end = waiting.count();
            // At most one piece goes RIGHT for each that is read, so none is overwritten unread.
            int rightEnd = from;
            leftList.shorten(0);
            for (int i = from; i < end; i++) {
                int wall = waiting.wallAt(i);
                int first = waiting.firstAt(i);
                int last = waiting.lastAt(i);
                int where = whereLies(line, i);
                if (where == ON) {
                    pieces.add(wall, first, last);
                    homes.add(k);
                    continue;
                }
                boolean cut = where == CUT;
                boolean startsLeft = cut && sideOfEnd(line, wall, first, false) == LEFT;
                if ((where & LEFT) != 0) {
                    leftList.add(wall, cut && !startsLeft ? line : first, startsLeft ? line : last);
                }
                if ((where & RIGHT) != 0) {
                    waiting.set(rightEnd, wall, startsLeft ? line : first, cut && !startsLeft ? line : last);
                    rightEnd++;
                }
            }
            waiting.shorten(rightEnd);
            for (int i = 0; i < leftList.count(); i++) {
                waiting.add(leftList.wallAt(i), leftList.firstAt(i), leftList.lastAt(i));
            }
            return rightEnd;
        }

        private int whereLies(int line, int i) {
            int wall = waiting.wallAt(i);
            return sideOfEnd(line, wall, waiting.firstAt(i), false)
                | sideOfEnd(line, wall, waiting.lastAt(i), true);
        }

        /** LEFT, RIGHT or ON, for the end of a piece that a cutter's line made, or its wall's own. */
        private int sideOfEnd(int lineNumber, int wallNumber, int cutterNumber, boolean last) {
            Wall line = walls.at(lineNumber);
            Wall wall = walls.at(wallNumber);
            if (line == null || wall == null) {
                return ON;
            }
            long a = line.side(wall.ax, wall.ay);
            long b = line.side(wall.bx, wall.by);
            Wall cutter = walls.at(cutterNumber);
            if (cutter == null) {
                return sideOf(last ? b : a);
            }
            return sideBetween(a, b, Math.abs(cutter.side(wall.ax, wall.ay)), Math.abs(cutter.side(wall.bx, wall.by)));
        }

        private static int sideOf(long side) {
            return side > 0 ? LEFT : side < 0 ? RIGHT : ON;
        }

        /**
         * The side of a * fromB + b * fromA, for the place between A and B that is fromA and fromB
         * (above 0) off them. The products stay under 2 to the 64th, but not under the 63rd: with
         * the highest bit turned over they compare as numbers without a sign.
         */
        private static int sideBetween(long a, long b, long fromA, long fromB) {
            if (a >= 0 && b >= 0) {
                return a > 0 || b > 0 ? LEFT : ON;
            }
            if (a <= 0 && b <= 0) {
                return RIGHT;
            }
            long highest = 1L << 63;
            long ofA = (Math.abs(a) * fromB) ^ highest;
            long ofB = (Math.abs(b) * fromA) ^ highest;
            if (ofA == ofB) {
                return ON;
            }
            return (a > 0) == (ofA > ofB) ? LEFT : RIGHT;
        }

        int nodeCount() {
            return lines.count();
        }

        int pieceCount() {
            return pieces.count();
        }

        int height() {
            return height;
        }

        boolean hasNode(int k) {
            return k >= 0 && k < lines.count();
        }

        int lineOf(int k) {
            return lines.at(k);
        }

        int leftOf(int k) {
            return lefts.at(k);
        }

        int rightOf(int k) {
            return rights.at(k);
        }

        int depthOf(int k) {
            return depths.at(k);
        }

        int nodesIn(int k) {
            return hasNode(k) ? sizes.at(k) : 0;
        }

        int ownPieces(int k) {
            return hasNode(k) ? firstPieceFrom(k + 1) - firstPieceFrom(k) : 0;
        }

        private int piecesIn(int k) {
            return hasNode(k) ? firstPieceFrom(k + sizes.at(k)) - firstPieceFrom(k) : 0;
        }

        private int firstPieceFrom(int k) {
            return hasNode(k) ? firstPieces.at(k) : pieces.count();
        }

        int pieceAt(int k, int i) {
            return i >= 0 && i < ownPieces(k) ? firstPieceFrom(k) + i : NONE;
        }

        int wallOfPiece(int piece) {
            return pieces.wallAt(piece);
        }

        int nodeOfPiece(int piece) {
            return homes.at(piece);
        }

        int placeInNode(int piece) {
            return piece == NONE ? NONE : piece - firstPieceFrom(homes.at(piece));
        }

        int piecesOfWall(int number) {
            int found = 0;
            for (int i = 0; i < pieces.count(); i++) {
                found += pieces.wallAt(i) == number ? 1 : 0;
            }
            return found;
        }

        long quotientOf(int piece, boolean last, boolean above) {
            Wall wall = walls.at(pieces.wallAt(piece));
            Wall cutter = walls.at(last ? pieces.lastAt(piece) : pieces.firstAt(piece));
            if (wall == null) {
                return NONE;
            }
            if (cutter == null) {
                return above && !last ? 0 : 1;
            }
            long over = Math.abs(cutter.side(wall.ax, wall.ay));
            long under = over + Math.abs(cutter.side(wall.bx, wall.by));
            long common = commonDivisor(under, over);
            if (common == 0) {
                return NONE;
            }
            return (above ? over : under) / common;
        }

        private static long commonDivisor(long greater, long lesser) {
            long a = greater;
            long b = lesser;
            // Two turns halve a number at least, and these have 34 bits.
            for (int turn = 0; turn < 128 && b != 0; turn++) {
                long rest = a % b;
                a = b;
                b = rest;
            }
            return a;
        }

        private boolean liesLeft(int k, int x, int y) {
            Wall line = walls.at(lines.at(k));
            return line != null && line.side(x, y) > 0;
        }

        int leafAround(int x, int y) {
            int before = 0;
            int k = 0;
            // A node's own wall goes into neither of its trees, so no way down has more nodes than walls.
            for (int depth = 0; depth < MOST_WALLS && hasNode(k); depth++) {
                int left = lefts.at(k);
                if (liesLeft(k, x, y)) {
                    k = left;
                } else {
                    before += nodesIn(left) + 1;
                    k = rights.at(k);
                }
            }
            return before;
        }

        int pieceOnWay(int x, int y, int i) {
            if (i < 0) {
                return NONE;
            }
            int rest = i;
            int k = 0;
            for (int depth = 0; depth < MOST_WALLS && hasNode(k); depth++) {
                boolean left = liesLeft(k, x, y);
                int near = left ? lefts.at(k) : rights.at(k);
                int nearPieces = piecesIn(near);
                if (rest < nearPieces) {
                    k = near;
                    continue;
                }
                rest -= nearPieces;
                if (rest < ownPieces(k)) {
                    return firstPieceFrom(k) + rest;
                }
                rest -= ownPieces(k);
                k = left ? rights.at(k) : lefts.at(k);
            }
            return NONE;
        }
    }
}
