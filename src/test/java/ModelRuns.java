import java.math.BigInteger;
import java.util.ArrayList;
import java.util.List;

/**
 * Compares NodeMaker, over many runs, with a model that follows the document's terms word for word
 * with fractions of any size.
 */
public final class ModelRuns {
    private static int wrong = 0;
    private static int scenes = 0;
    private static int mostCuts = 0;
    private static int deepest = 0;

    public static void main(String[] args) {
        for (int seed = 1; seed <= 12; seed++) {
            smallPlane(new Dice(seed), 3 + seed % 6);
            randomWalls(new Dice(1000 + seed), 40, 200);
            randomWalls(new Dice(2000 + seed), 32768, 9000);
            randomWalls(new Dice(3000 + seed), 32768, 65535);
            comb(new Dice(4000 + seed));
            lopsidedComb(new Dice(5000 + seed));
            pencil(new Dice(6000 + seed));
            grid(new Dice(7000 + seed));
        }
        manyCuts(new Dice(8000), 0);
        manyCuts(new Dice(8001), 3);
        polygon(64, 1);
        polygon(64, -1);
        polygon(17, 1);
        System.out.println(scenes + " scenes, at most " + mostCuts + " cuts and " + deepest + " levels");
        System.out.println(wrong == 0 ? "all answers are as due" : wrong + " answers are not as due");
        if (wrong != 0) {
            System.exit(1);
        }
    }

    // The scenes.

    private static void smallPlane(Dice dice, int reach) {
        Pair pair = new Pair();
        for (int i = 0; i < 90; i++) {
            int kind = dice.below(12);
            if (kind == 0) {
                pair.take(dice.below(12));
            } else if (kind == 1 && dice.below(10) == 0) {
                pair.clear();
            } else if (kind == 2) {
                pair.way(dice.around(reach), dice.around(reach));
            } else {
                pair.put(dice.around(reach), dice.around(reach), dice.around(reach), dice.around(reach));
            }
            if (i % 9 == 8) {
                pair.compare(dice, reach);
            }
        }
    }

    private static void randomWalls(Dice dice, int reach, int length) {
        Pair pair = new Pair();
        for (int i = 0; i < 150; i++) {
            int ax = dice.around(reach);
            int ay = dice.around(reach);
            pair.put(ax, ay, ax + dice.around(length), ay + dice.around(length));
            if (i % 20 == 19) {
                pair.take(dice.below(64));
            }
        }
        pair.compare(dice, reach);
    }

    /** Long walls that lie, and some that stand behind their ends and are met by their lines. */
    private static void comb(Dice dice) {
        Pair pair = new Pair();
        int stand = 4 + dice.below(30);
        for (int i = 0; i < 64 - stand; i++) {
            int y = -31000 + (62000 / (64 - stand)) * i + dice.below(600);
            pair.put(-32768 + dice.below(400), y, 31000 + dice.below(400), y + dice.around(300));
        }
        for (int i = 0; i < stand; i++) {
            int x = 31500 + 35 * i;
            pair.put(x + dice.below(30), -32768 + dice.below(900), x + dice.below(30), 32767 - dice.below(900));
        }
        pair.compare(dice, 32768);
    }

    /** As the comb, but most that lie are far down, so that the first cut comes far from the middle. */
    private static void lopsidedComb(Dice dice) {
        Pair pair = new Pair();
        for (int i = 0; i < 24; i++) {
            int y = i % 8 == 7 ? 22000 + dice.below(10000) : -32000 + dice.below(9000);
            boolean back = dice.below(2) == 0;
            int left = -32768 + dice.below(100);
            int right = 32300 + dice.below(100);
            pair.put(back ? right : left, y, back ? left : right, y);
        }
        for (int i = 0; i < 6; i++) {
            int x = 32450 + 60 * i;
            boolean down = dice.below(2) == 0;
            pair.put(x, down ? 32767 : -32768, x + dice.around(20), down ? -32768 : 32767);
        }
        pair.compare(dice, 32768);
    }

    /** Walls whose lines all go through one place, and others that have this place on them or near them. */
    private static void pencil(Dice dice) {
        Pair pair = new Pair();
        int px = dice.around(50);
        int py = dice.around(50);
        for (int i = 0; i < 50; i++) {
            int dx = dice.around(90);
            int dy = dice.around(90);
            int near = 2 + dice.below(100);
            int far = near + 1 + dice.below(100);
            pair.put(px + near * dx, py + near * dy, px + far * dx, py + far * dy);
        }
        for (int i = 0; i < 12; i++) {
            int dx = 1 + dice.below(30);
            int dy = dice.around(30);
            int shift = dice.below(3) == 0 ? dice.around(3) : 0;
            int n = 1 + dice.below(4);
            int m = 1 + dice.below(4);
            pair.put(px - n * dx, py - n * dy + shift, px + m * dx, py + m * dy + shift);
        }
        pair.compare(dice, 500);
    }

    /** Walls along the lines of squared paper: many lie on one line, many share ends. */
    private static void grid(Dice dice) {
        Pair pair = new Pair();
        for (int i = 0; i < 110; i++) {
            int x = 10 * dice.around(4);
            int y = 10 * dice.around(4);
            boolean lies = dice.below(2) == 0;
            int length = 10 * (dice.below(2) == 0 ? 1 : -1) * (1 + dice.below(2));
            pair.put(x, y, lies ? x + length : x, lies ? y : y + length);
        }
        pair.compare(dice, 50);
    }

    /** Of 33 walls that lie three cut all 31 that stand, as those that stand are not among the first 16. */
    private static void manyCuts(Dice dice, int shift) {
        Pair pair = new Pair();
        for (int i = 0; i < 33; i++) {
            int y = 1000 * ((2 * i) % 33) - 16000;
            pair.put(-32768, y, 30000, y + dice.around(shift));
        }
        for (int i = 0; i < 31; i++) {
            int x = 30100 + 80 * i;
            pair.put(x, -32768 + dice.below(99), x + dice.around(shift), 32767 - dice.below(99));
        }
        pair.compare(dice, 32768);
    }

    private static void polygon(int corners, int turn) {
        Pair pair = new Pair();
        int[] xs = new int[corners];
        int[] ys = new int[corners];
        for (int i = 0; i < corners; i++) {
            double angle = turn * 2 * Math.PI * i / corners;
            xs[i] = (int) Math.round(32000 * Math.cos(angle));
            ys[i] = (int) Math.round(32000 * Math.sin(angle));
        }
        for (int i = 0; i < corners; i++) {
            int next = (i + 1) % corners;
            pair.put(xs[i], ys[i], xs[next], ys[next]);
        }
        pair.compare(new Dice(corners), 32768);
    }

    /** Numbers that look thrown, but are the same in every run. */
    private static final class Dice {
        private long state;

        Dice(int seed) {
            state = seed * 7919L + 17;
        }

        int below(int bound) {
            state = state * 6364136223846793005L + 1442695040888963407L;
            return (int) ((state >>> 33) % bound);
        }

        int around(int reach) {
            return below(2 * reach + 1) - reach;
        }
    }

    /** An object and the model of it; a new object takes its place before it has had 512 calls. */
    private static final class Pair {
        private final Model model = new Model();
        private final List<int[]> history = new ArrayList<>();
        private NodeMaker x = new NodeMaker();
        private int calls = 0;

        private NodeMaker object() {
            if (calls >= 510) {
                x = new NodeMaker();
                calls = 0;
                for (int[] h : history) {
                    repeat(h);
                }
            }
            calls++;
            return x;
        }

        private void repeat(int[] h) {
            calls++;
            switch (h[0]) {
                case 0 -> x.put(h[1], h[2], h[3], h[4]);
                case 1 -> x.take(h[1]);
                case 2 -> x.clear();
                default -> x.way(h[1], h[2]);
            }
        }

        void put(int ax, int ay, int bx, int by) {
            int want = model.put(ax, ay, bx, by);
            due("put(" + ax + ", " + ay + ", " + bx + ", " + by + ")", object().put(ax, ay, bx, by), want);
            if (want != -1) {
                history.add(new int[] {0, ax, ay, bx, by});
            }
        }

        void take(int wall) {
            boolean want = wall < 64 && model.walls[wall] != null;
            due("take(" + wall + ")", object().take(wall) ? 1 : 0, want ? 1 : 0);
            if (want) {
                model.walls[wall] = null;
                history.add(new int[] {1, wall});
            }
        }

        void clear() {
            object().clear();
            model.walls = new int[64][];
            history.clear();
            if (model.eye != null) {
                history.add(new int[] {3, model.eye[0], model.eye[1]});
            }
        }

        void way(int ex, int ey) {
            model.eye = new int[] {ex, ey};
            model.grow();
            due("way(" + ex + ", " + ey + ")", object().way(ex, ey), model.pieceCount);
            history.removeIf(h -> h[0] == 3);
            history.add(new int[] {3, ex, ey});
        }

        void compare(Dice dice, int reach) {
            scenes++;
            model.grow();
            compareCounts();
            for (int k = 0; k < model.nodes.size(); k++) {
                compareNode(k, model.nodes.get(k));
            }
            for (int w = 0; w < 64; w++) {
                compareWall(w);
            }
            compareWay();
            for (int i = 0; i < 6; i++) {
                int ex = Math.max(-32768, Math.min(32767, dice.around(reach)));
                int ey = Math.max(-32768, Math.min(32767, dice.around(reach)));
                comparePlace(ex, ey);
            }
            for (int[] w : model.walls) {
                if (w != null && dice.below(8) == 0) {
                    comparePlace(w[0], w[1]);
                }
            }
        }

        private void compareCounts() {
            int walls = 0;
            for (int[] w : model.walls) {
                walls += w != null ? 1 : 0;
            }
            due("look(0)", object().look(0), walls);
            due("look(1)", object().look(1), model.nodes.size());
            due("look(2)", object().look(2), model.leaves);
            due("look(3)", object().look(3), model.pieceCount);
            due("look(4)", object().look(4), model.height(model.root));
            due("look(5)", object().look(5), model.cuts);
            due("node past the last", object().node(model.nodes.size(), 0), -1);
            mostCuts = Math.max(mostCuts, model.cuts);
            deepest = Math.max(deepest, model.height(model.root));
        }

        private void compareNode(int k, Node n) {
            due("node(" + k + ", 0)", object().node(k, 0), n.line);
            due("node(" + k + ", 1)", object().node(k, 1), n.left == null ? -1 : n.left.number);
            due("node(" + k + ", 2)", object().node(k, 2), n.right == null ? -1 : n.right.number);
            due("node(" + k + ", 3)", object().node(k, 3), n.pieces.size());
            due("node(" + k + ", 4)", object().node(k, 4), n.size());
            due("node(" + k + ", 5)", object().node(k, 5), n.around);
            due("wall past the last", object().wall(k, n.pieces.size()), -1);
            for (int i = 0; i < n.pieces.size(); i++) {
                Piece p = n.pieces.get(i);
                String at = "(" + k + ", " + i;
                due("wall" + at + ")", object().wall(k, i), p.wall);
                due("quotient" + at + ", 0)", object().quotient(k, i, 0), p.from.above.longValueExact());
                due("quotient" + at + ", 1)", object().quotient(k, i, 1), p.from.below.longValueExact());
                due("quotient" + at + ", 2)", object().quotient(k, i, 2), p.to.above.longValueExact());
                due("quotient" + at + ", 3)", object().quotient(k, i, 3), p.to.below.longValueExact());
            }
        }

        private void compareWall(int w) {
            int[] wall = model.walls[w];
            int in = 0;
            for (Node n : model.nodes) {
                for (Piece p : n.pieces) {
                    in += p.wall == w ? 1 : 0;
                }
            }
            for (int what = 0; what < 5; what++) {
                int want = wall == null ? 100000 : what < 4 ? wall[what] : in;
                due("of(" + w + ", " + what + ")", object().of(w, what), want);
            }
        }

        private void comparePlace(int ex, int ey) {
            due("leaf(" + ex + ", " + ey + ")", object().leaf(ex, ey), model.leaf(ex, ey));
            way(ex, ey);
            compareWay();
        }

        private void compareWay() {
            List<int[]> way = new ArrayList<>();
            if (model.eye != null) {
                model.walk(model.root, way);
            }
            for (int i = 0; i < way.size(); i++) {
                for (int what = 0; what < 3; what++) {
                    due("step(" + i + ", " + what + ")", object().step(i, what), way.get(i)[what]);
                }
            }
            due("step past the last", object().step(way.size(), 0), -1);
            due("step before the first", object().step(-1, 0), -1);
        }

        private void due(String call, long got, long want) {
            if (got == want) {
                return;
            }
            wrong++;
            if (wrong <= 40) {
                System.out.println("scene " + scenes + ": " + call + " answered " + got + ", due is " + want);
            }
        }
    }

    // The model.

    private record Fraction(BigInteger above, BigInteger below) {
        static Fraction of(long whole) {
            return new Fraction(BigInteger.valueOf(whole), BigInteger.ONE);
        }

        boolean isWhole(long whole) {
            return minus(of(whole)).signum() == 0;
        }

        Fraction inLeastTerms() {
            BigInteger common = above.gcd(below);
            if (below.signum() < 0) {
                common = common.negate();
            }
            return new Fraction(above.divide(common), below.divide(common));
        }

        int signum() {
            return above.signum() * below.signum();
        }

        Fraction plus(Fraction o) {
            return new Fraction(above.multiply(o.below).add(o.above.multiply(below)), below.multiply(o.below));
        }

        Fraction minus(Fraction o) {
            return plus(new Fraction(o.above.negate(), o.below));
        }

        Fraction times(Fraction o) {
            return new Fraction(above.multiply(o.above), below.multiply(o.below));
        }

        Fraction over(Fraction o) {
            return new Fraction(above.multiply(o.below), below.multiply(o.above));
        }
    }

    private record Piece(int wall, Fraction from, Fraction to) {
    }

    private static final class Node {
        private int number;
        private int line;
        private int around;
        private Node left;
        private Node right;
        private final List<Piece> pieces = new ArrayList<>();

        int size() {
            return 1 + (left == null ? 0 : left.size()) + (right == null ? 0 : right.size());
        }
    }

    private static final class Model {
        private int[][] walls = new int[64][];
        private int[] eye;
        private Node root;
        private List<Node> nodes = new ArrayList<>();
        private int leaves;
        private int pieceCount;
        private int cuts;

        int put(int ax, int ay, int bx, int by) {
            int[] w = {ax, ay, bx, by};
            for (int c : w) {
                if (c < -32768 || c > 32767) {
                    return -1;
                }
            }
            if (ax == bx && ay == by) {
                return -1;
            }
            for (int[] other : walls) {
                if (other != null && share(w, other)) {
                    return -1;
                }
            }
            for (int i = 0; i < 64; i++) {
                if (walls[i] == null) {
                    walls[i] = w;
                    return i;
                }
            }
            return -1;
        }

        /** Solves for where the two lines meet, or compares the two walls along the one line. */
        private static boolean share(int[] w, int[] o) {
            long wx = w[2] - w[0];
            long wy = w[3] - w[1];
            long ox = o[2] - o[0];
            long oy = o[3] - o[1];
            long dx = o[0] - w[0];
            long dy = o[1] - w[1];
            long turn = wx * oy - wy * ox;
            if (turn == 0) {
                int axis = wx != 0 ? 0 : 1;
                int low = Math.max(Math.min(w[axis], w[axis + 2]), Math.min(o[axis], o[axis + 2]));
                int high = Math.min(Math.max(w[axis], w[axis + 2]), Math.max(o[axis], o[axis + 2]));
                return wx * dy - wy * dx == 0 && low < high;
            }
            long t = dx * oy - dy * ox;
            long u = dx * wy - dy * wx;
            long whole = Math.abs(turn);
            t = turn < 0 ? -t : t;
            u = turn < 0 ? -u : u;
            boolean meet = t >= 0 && t <= whole && u >= 0 && u <= whole;
            return meet && !((t == 0 || t == whole) && (u == 0 || u == whole));
        }

        void grow() {
            nodes = new ArrayList<>();
            leaves = 0;
            pieceCount = 0;
            cuts = 0;
            List<Piece> all = new ArrayList<>();
            for (int i = 0; i < 64; i++) {
                if (walls[i] != null) {
                    all.add(new Piece(i, Fraction.of(0), Fraction.of(1)));
                }
            }
            root = tree(all, 0);
        }

        private Node tree(List<Piece> list, int around) {
            if (list.isEmpty()) {
                leaves++;
                return null;
            }
            Node n = new Node();
            n.number = nodes.size();
            n.around = around;
            n.line = choose(list);
            nodes.add(n);
            List<Piece> left = new ArrayList<>();
            List<Piece> right = new ArrayList<>();
            for (Piece p : list) {
                int from = sign(n.line, p.wall, p.from);
                int to = sign(n.line, p.wall, p.to);
                if (from == 0 && to == 0) {
                    n.pieces.add(p);
                    pieceCount++;
                } else if (from >= 0 && to >= 0) {
                    left.add(p);
                } else if (from <= 0 && to <= 0) {
                    right.add(p);
                } else {
                    cuts++;
                    Fraction q = meet(n.line, p.wall);
                    (from > 0 ? left : right).add(new Piece(p.wall, p.from, q));
                    (to > 0 ? left : right).add(new Piece(p.wall, q, p.to));
                }
            }
            n.left = tree(left, around + 1);
            n.right = tree(right, around + 1);
            return n;
        }

        private int choose(List<Piece> list) {
            int best = -1;
            int least = 0;
            for (int c = 0; c < list.size() && c < 16; c++) {
                int line = list.get(c).wall;
                int cut = 0;
                int left = 0;
                int right = 0;
                for (Piece p : list) {
                    int from = sign(line, p.wall, p.from);
                    int to = sign(line, p.wall, p.to);
                    left += from > 0 || to > 0 ? 1 : 0;
                    right += from < 0 || to < 0 ? 1 : 0;
                    cut += from * to < 0 ? 1 : 0;
                }
                int price = 4 * cut + Math.abs(left - right);
                if (best == -1 || price < least) {
                    best = line;
                    least = price;
                }
            }
            return best;
        }

        private Fraction at(int wall, int axis, Fraction q) {
            int[] w = walls[wall];
            return Fraction.of(w[axis]).plus(q.times(Fraction.of(w[axis + 2] - w[axis])));
        }

        private Fraction side(int line, Fraction x, Fraction y) {
            int[] l = walls[line];
            Fraction along = Fraction.of(l[2] - l[0]).times(y.minus(Fraction.of(l[1])));
            return along.minus(Fraction.of(l[3] - l[1]).times(x.minus(Fraction.of(l[0]))));
        }

        private int sign(int line, int wall, Fraction q) {
            return side(line, at(wall, 0, q), at(wall, 1, q)).signum();
        }

        private Fraction meet(int line, int wall) {
            Fraction a = side(line, at(wall, 0, Fraction.of(0)), at(wall, 1, Fraction.of(0)));
            Fraction b = side(line, at(wall, 0, Fraction.of(1)), at(wall, 1, Fraction.of(1)));
            Fraction q = a.over(a.minus(b)).inLeastTerms();
            if (sign(line, wall, q) != 0 || q.isWhole(0) || q.isWhole(1)) {
                throw new IllegalStateException("the model is wrong");
            }
            return q;
        }

        private boolean isLeft(int line, int ex, int ey) {
            return side(line, Fraction.of(ex), Fraction.of(ey)).signum() > 0;
        }

        int height(Node n) {
            return n == null ? 0 : 1 + Math.max(height(n.left), height(n.right));
        }

        int leaf(int ex, int ey) {
            int before = 0;
            Node n = root;
            while (n != null) {
                if (isLeft(n.line, ex, ey)) {
                    n = n.left;
                } else {
                    before += n.left == null ? 1 : n.left.size() + 1;
                    n = n.right;
                }
            }
            return before;
        }

        void walk(Node n, List<int[]> way) {
            if (n == null) {
                return;
            }
            boolean left = isLeft(n.line, eye[0], eye[1]);
            walk(left ? n.left : n.right, way);
            for (int i = 0; i < n.pieces.size(); i++) {
                way.add(new int[] {n.pieces.get(i).wall, n.number, i});
            }
            walk(left ? n.right : n.left, way);
        }
    }
}
