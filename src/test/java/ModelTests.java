import java.util.ArrayDeque;
import java.util.ArrayList;
import java.util.Arrays;
import java.util.HashMap;
import java.util.List;
import java.util.Map;

/** Long made-up runs of calls, each answer beside that of a slow model that tells the document's words square by square. */
public final class ModelTests {
    private static final int BAD = -1, NO = -2, FULL = -3, NONE = -4;
    private static final int RUNS = 400;
    private static final int CALLS = 512;

    // The same numbers in every run of the tests.
    private static long made = 20240607;

    private static int below(int bound) {
        made = made * 6364136223846793005L + 1442695040888963407L;
        return (int) ((made >>> 33) % bound);
    }

    public static void main(String[] args) {
        int wrong = 0;
        for (int run = 0; run < RUNS && wrong < 20; run++) {
            wrong += compare(run);
        }
        System.out.println("ModelTests: " + RUNS + " runs of " + CALLS + " calls, " + wrong + " wrong");
        if (wrong != 0) {
            System.exit(1);
        }
    }

    private static int compare(int run) {
        GapPieces real = new GapPieces();
        Model model = new Model();
        for (int i = 0; i < CALLS; i++) {
            int[] call = i < 20 ? opening(run, i) : anyCall(model);
            int want = ask(model, call);
            int got;
            try {
                got = ask(real, call);
            } catch (RuntimeException thrown) {
                System.out.println("run " + run + ", call " + i + " " + Arrays.toString(call) + " threw " + thrown);
                return 1;
            }
            if (got != want) {
                System.out.println("run " + run + ", call " + i + " " + Arrays.toString(call) + " answered " + got + ", the model " + want);
                return 1;
            }
        }
        return 0;
    }

    private static int ask(GapPieces g, int[] c) {
        switch (c[0]) {
            case 0: return g.board(c[1], c[2]);
            case 1: return g.walls(c[1], c[2]);
            case 2: return g.piece(c[1]);
            case 3: return g.about(c[1], c[2]);
            case 4: return g.put(c[1], c[2], c[3]);
            case 5: return g.away(c[1]);
            case 6: return g.stands(c[1], c[2], c[3]);
            case 7: return g.slide(c[1], c[2], c[3]);
            case 8: return g.way(c[1], c[2], c[3]);
            case 9: return g.stepOf(c[1]);
            case 10: return g.out(c[1]);
            case 11: return g.places(c[1], c[2]);
            case 12: return g.blocks(c[1], c[2]);
            case 13: return g.order(c[1], c[2]);
            case 14: return g.apart(c[1]);
            case 15: return g.push(c[1], c[2], c[3]);
            case 16: return g.strip(c[1], c[2], c[3], c[4]);
            case 17: return g.best(c[1], c[2], c[3]);
            default: return g.count(c[1]);
        }
    }

    private static int ask(Model g, int[] c) {
        switch (c[0]) {
            case 0: return g.board(c[1], c[2]);
            case 1: return g.walls(c[1], c[2]);
            case 2: return g.piece(c[1]);
            case 3: return g.about(c[1], c[2]);
            case 4: return g.put(c[1], c[2], c[3]);
            case 5: return g.away(c[1]);
            case 6: return g.stands(c[1], c[2], c[3]);
            case 7: return g.slide(c[1], c[2], c[3]);
            case 8: return g.way(c[1], c[2], c[3]);
            case 9: return g.stepOf(c[1]);
            case 10: return g.out(c[1]);
            case 11: return g.places(c[1], c[2]);
            case 12: return g.blocks(c[1], c[2]);
            case 13: return g.order(c[1], c[2]);
            case 14: return g.apart(c[1]);
            case 15: return g.push(c[1], c[2], c[3]);
            case 16: return g.strip(c[1], c[2], c[3], c[4]);
            case 17: return g.best(c[1], c[2], c[3]);
            default: return g.count(c[1]);
        }
    }

    private static int[] opening(int run, int i) {
        if (i == 0) {
            return run % 3 == 0 ? new int[] {0, 12, 10} : new int[] {0, 1 + below(12), 1 + below(10)};
        }
        return i < 3 + below(8) ? new int[] {2, anyShape()} : new int[] {4, below(8), below(14) - 2, below(12) - 2};
    }

    private static int anyShape() {
        switch (below(8)) {
            case 0: return 1 + below(33554431);
            case 1: return 1 << below(25) | 1 << below(25);
            case 2: return 7 + 32 * 5 + 1024 * 7 & ~(1 << below(13)) | 1;
            case 3: return 31 + 32 * 17 + 1024 * 17 + 32768 * 17 + 1048576 * 31;
            case 4: return 5 + 32 * (1 + below(7)) + 1024 * (1 + below(7));
            default: return 1 + below(7) + 32 * below(8) + (below(3) == 0 ? 1024 * below(8) : 0);
        }
    }

    private static int any(int low, int high) {
        if (below(60) == 0) {
            int[] odd = {Integer.MIN_VALUE, Integer.MAX_VALUE, -1, low - 1, high + 1, 1 << below(31), -(1 << below(31)), below(Integer.MAX_VALUE)};
            return odd[below(odd.length)];
        }
        return low + below(high - low + 1);
    }

    private static int anyPiece(Model m) {
        return any(0, below(12) == 0 ? 7 : Math.max(0, m.shapes.size() - 1));
    }

    private static int[] anyCall(Model m) {
        int p = anyPiece(m);
        int x = below(3) == 0 ? any(-6, 13) : any(-2, m.columns);
        int y = below(3) == 0 ? any(-6, 13) : any(-2, m.rows);
        switch (below(26)) {
            case 0: return below(12) == 0 ? new int[] {0, any(1, 12), any(1, 10)} : new int[] {18, any(0, 4)};
            case 1: case 2: return new int[] {1, any(0, m.rows - 1), any(0, (1 << m.columns) - 1)};
            case 3: return new int[] {1, any(0, m.rows - 1), any(0, (1 << m.columns) - 1) & any(0, (1 << m.columns) - 1)};
            case 4: return below(4) == 0 ? new int[] {2, below(20) == 0 ? any(1, 33554431) : anyShape()} : new int[] {3, p, any(0, 7)};
            case 5: return new int[] {3, p, any(0, 7)};
            case 6: case 7: case 8: return new int[] {4, p, x, y};
            case 9: return below(3) == 0 ? new int[] {5, p} : new int[] {4, p, x, y};
            case 10: case 11: return new int[] {6, p, x, y};
            case 12: case 13: return new int[] {7, p, any(0, 3), any(1, 20)};
            case 14: case 15: return new int[] {8, p, x, y};
            case 16: case 17: return new int[] {9, any(0, below(4) == 0 ? 40 : 6)};
            case 18: return new int[] {10, p};
            case 19: return new int[] {11, p, any(0, 1)};
            case 20: return new int[] {12, p, any(0, 3)};
            case 21: return new int[] {13, any(0, 3), any(-1, 7)};
            case 22: return new int[] {14, any(-1, 7)};
            case 23: return new int[] {15, p, anyPiece(m), any(0, 1)};
            case 24: return anyStrip(m);
            default: return below(4) == 0 ? new int[] {17, any(3, 12), any(1, (1 << m.shapes.size()) - 1), any(0, 1)} : anyStrip(m);
        }
    }

    private static int[] anyStrip(Model m) {
        int n = any(1, 5);
        List<Integer> left = new ArrayList<>();
        for (int p = 0; p < m.shapes.size(); p++) {
            left.add(p);
        }
        int order = 0;
        for (int k = 0; k < 5 && k < n && !left.isEmpty(); k++) {
            order |= left.remove(below(left.size())) << 3 * k;
        }
        if (below(15) == 0) {
            order ^= 1 << below(32);
        }
        return new int[] {16, any(3, 12), n, order, any(0, n < 1 || n > 5 ? 5 : n)};
    }

    private static final class Model {
        private static final int[] DX = {1, 0, -1, 0};
        private static final int[] DY = {0, 1, 0, -1};

        private int columns = 1;
        private int rows = 1;
        private boolean[][] wall = new boolean[12][10];
        private final List<int[][]> shapes = new ArrayList<>();
        private final boolean[] lies = new boolean[8];
        private final int[] px = new int[8];
        private final int[] py = new int[8];
        private String told = "";

        int board(int c, int r) {
            if (c < 1 || c > 12 || r < 1 || r > 10) {
                return BAD;
            }
            columns = c;
            rows = r;
            wall = new boolean[12][10];
            Arrays.fill(lies, false);
            told = "";
            return c * r;
        }

        int walls(int y, int bits) {
            if (y < 0 || y >= rows || bits < 0 || bits >= 1 << columns) {
                return BAD;
            }
            for (int p = 0; p < shapes.size(); p++) {
                for (int[] s : shapes.get(p)) {
                    int x = px[p] + s[0];
                    if (lies[p] && py[p] + s[1] == y && x >= 0 && x < columns && (bits >> x & 1) == 1) {
                        return NO;
                    }
                }
            }
            for (int x = 0; x < columns; x++) {
                wall[x][y] = (bits >> x & 1) == 1;
            }
            return bits;
        }

        int piece(int shape) {
            if (shape <= 0 || shape >= 1 << 25) {
                return BAD;
            }
            if (shapes.size() == 8) {
                return FULL;
            }
            List<int[]> squares = new ArrayList<>();
            int left = 5;
            int low = 5;
            for (int bit = 0; bit < 25; bit++) {
                if ((shape >> bit & 1) == 1) {
                    squares.add(new int[] {bit % 5, bit / 5});
                    left = Math.min(left, bit % 5);
                    low = Math.min(low, bit / 5);
                }
            }
            for (int[] s : squares) {
                s[0] -= left;
                s[1] -= low;
            }
            shapes.add(squares.toArray(new int[0][]));
            return shapes.size() - 1;
        }

        boolean none(int p) {
            return p < 0 || p >= shapes.size();
        }

        int most(int p, int axis) {
            int most = 0;
            for (int[] s : shapes.get(p)) {
                most = Math.max(most, s[axis] + 1);
            }
            return most;
        }

        boolean onBoard(int x, int y) {
            return x >= 0 && x < columns && y >= 0 && y < rows;
        }

        boolean outAt(int p, int x, int y) {
            for (int[] s : shapes.get(p)) {
                if (onBoard(x + s[0], y + s[1])) {
                    return false;
                }
            }
            return true;
        }

        boolean inside(int p, int x, int y) {
            for (int[] s : shapes.get(p)) {
                if (!onBoard(x + s[0], y + s[1])) {
                    return false;
                }
            }
            return true;
        }

        boolean place(int x, int y) {
            return x >= -6 && x <= 13 && y >= -6 && y <= 13;
        }

        boolean can(int p, int x, int y, boolean[] there) {
            if (!place(x, y)) {
                return false;
            }
            for (int[] s : shapes.get(p)) {
                int sx = x + s[0];
                int sy = y + s[1];
                if (onBoard(sx, sy) && wall[sx][sy]) {
                    return false;
                }
                for (int q = 0; q < shapes.size(); q++) {
                    if (q != p && there[q]) {
                        for (int[] t : shapes.get(q)) {
                            if (px[q] + t[0] == sx && py[q] + t[1] == sy) {
                                return false;
                            }
                        }
                    }
                }
            }
            return true;
        }

        int about(int p, int what) {
            if (none(p) || what < 0 || what > 7) {
                return BAD;
            }
            int shape = 0;
            for (int[] s : shapes.get(p)) {
                shape |= 1 << 5 * s[1] + s[0];
            }
            int[] answers = {shapes.get(p).length, most(p, 0), most(p, 1), lies[p] ? px[p] : -100, lies[p] ? py[p] : -100,
                lies[p] ? 1 : 0, shape, lies[p] && outAt(p, px[p], py[p]) ? 1 : 0};
            return answers[what];
        }

        int put(int p, int x, int y) {
            if (none(p) || !place(x, y)) {
                return BAD;
            }
            if (!can(p, x, y, lies)) {
                return NO;
            }
            lies[p] = true;
            px[p] = x;
            py[p] = y;
            return 1;
        }

        int away(int p) {
            if (none(p)) {
                return BAD;
            }
            int was = lies[p] ? 1 : 0;
            lies[p] = false;
            return was;
        }

        int stands(int p, int x, int y) {
            return none(p) || !place(x, y) ? BAD : can(p, x, y, lies) ? 1 : 0;
        }

        int slide(int p, int d, int n) {
            if (none(p) || d < 0 || d > 3 || n < 1 || n > 20) {
                return BAD;
            }
            if (!lies[p]) {
                return NO;
            }
            int steps = 0;
            while (steps < n && can(p, px[p] + DX[d], py[p] + DY[d], lies)) {
                px[p] += DX[d];
                py[p] += DY[d];
                steps++;
            }
            return steps;
        }

        static int key(int x, int y) {
            return 100 * (x + 10) + y + 10;
        }

        /** The least row of fewest steps to every place that can be reached. */
        Map<Integer, String> ways(int p, boolean[] there) {
            Map<Integer, String> ways = new HashMap<>();
            ArrayDeque<int[]> next = new ArrayDeque<>();
            ways.put(key(px[p], py[p]), "");
            next.add(new int[] {px[p], py[p]});
            while (!next.isEmpty()) {
                int[] at = next.remove();
                String way = ways.get(key(at[0], at[1]));
                for (int d = 0; d < 4; d++) {
                    int x = at[0] + DX[d];
                    int y = at[1] + DY[d];
                    if (!ways.containsKey(key(x, y)) && can(p, x, y, there)) {
                        ways.put(key(x, y), way + d);
                        next.add(new int[] {x, y});
                    }
                }
            }
            return ways;
        }

        int way(int p, int x, int y) {
            if (none(p) || !place(x, y)) {
                return BAD;
            }
            if (!lies[p]) {
                return NO;
            }
            String way = ways(p, lies).get(key(x, y));
            if (way == null) {
                return NONE;
            }
            told = way;
            return way.length();
        }

        int stepOf(int i) {
            return i < 0 ? BAD : i < told.length() ? told.charAt(i) - '0' : NONE;
        }

        int least(int p, boolean[] there) {
            int least = NONE;
            Map<Integer, String> ways = ways(p, there);
            for (int x = -6; x <= 13; x++) {
                for (int y = -6; y <= 13; y++) {
                    String way = ways.get(key(x, y));
                    if (way != null && outAt(p, x, y) && (least < 0 || way.length() < least)) {
                        least = way.length();
                    }
                }
            }
            return least;
        }

        int out(int p) {
            return none(p) ? BAD : !lies[p] ? NO : least(p, lies);
        }

        int places(int p, int what) {
            if (none(p) || what < 0 || what > 1) {
                return BAD;
            }
            int found = 0;
            boolean wasLying = lies[p];
            int wasX = px[p];
            int wasY = py[p];
            List<Map<Integer, String>> rooms = new ArrayList<>();
            for (int x = -6; x <= 13; x++) {
                for (int y = -6; y <= 13; y++) {
                    if (!can(p, x, y, lies)) {
                        continue;
                    }
                    if (what == 0) {
                        found += inside(p, x, y) ? 1 : 0;
                        continue;
                    }
                    boolean told = false;
                    for (Map<Integer, String> room : rooms) {
                        told |= room.containsKey(key(x, y));
                    }
                    if (!told) {
                        px[p] = x;
                        py[p] = y;
                        rooms.add(ways(p, lies));
                        found += least(p, lies) == NONE ? 1 : 0;
                    }
                }
            }
            lies[p] = wasLying;
            px[p] = wasX;
            py[p] = wasY;
            return found;
        }

        boolean blocks(int a, int b, int d) {
            for (int k = 1; k < 40; k++) {
                for (int[] s : shapes.get(b)) {
                    for (int[] t : shapes.get(a)) {
                        if (px[b] + s[0] + k * DX[d] == px[a] + t[0] && py[b] + s[1] + k * DY[d] == py[a] + t[1]) {
                            return true;
                        }
                    }
                }
            }
            return false;
        }

        int blocks(int p, int d) {
            if (none(p) || d < 0 || d > 3) {
                return BAD;
            }
            if (!lies[p]) {
                return NO;
            }
            int bits = 0;
            for (int a = 0; a < shapes.size(); a++) {
                bits |= a != p && lies[a] && blocks(a, p, d) ? 1 << a : 0;
            }
            return bits;
        }

        boolean goes(int p, int d, boolean[] left) {
            if (d == 4) {
                return least(p, left) >= 0;
            }
            for (int a = 0; a < shapes.size(); a++) {
                if (a != p && left[a] && blocks(a, p, d)) {
                    return false;
                }
            }
            return true;
        }

        int leave(int d, int i) {
            boolean[] left = lies.clone();
            List<Integer> gone = new ArrayList<>();
            for (int p = 0; p < shapes.size(); p++) {
                if (left[p] && goes(p, d, left)) {
                    left[p] = false;
                    gone.add(p);
                    p = -1;
                }
            }
            int bits = 0;
            for (int p = 0; p < 8; p++) {
                bits |= left[p] ? 1 << p : 0;
            }
            return i < 0 ? bits : i < gone.size() ? gone.get(i) : NONE;
        }

        int order(int d, int i) {
            return d < 0 || d > 3 || i < -1 ? BAD : leave(d, i);
        }

        int apart(int i) {
            return i < -1 ? BAD : leave(4, i);
        }

        int push(int a, int b, int what) {
            if (none(a) || none(b) || a == b || what < 0 || what > 1) {
                return -1000;
            }
            for (int size = 0; size <= 20; size++) {
                for (int dx = -10; dx <= 10; dx++) {
                    for (int dy = -10; dy <= 10; dy++) {
                        if (Math.abs(dx) + Math.abs(dy) == size && !common(a, b, dx, dy)) {
                            return what == 0 ? dx : dy;
                        }
                    }
                }
            }
            throw new IllegalStateException("no push");
        }

        boolean common(int a, int b, int dx, int dy) {
            for (int[] s : shapes.get(a)) {
                for (int[] t : shapes.get(b)) {
                    if (s[0] + dx == t[0] && s[1] + dy == t[1]) {
                        return true;
                    }
                }
            }
            return false;
        }

        /** The height, then the spots. */
        int[] fill(int w, List<Integer> order) {
            boolean[][] full = new boolean[w][40];
            int[] answers = new int[order.size() + 1];
            for (int k = 0; k < order.size(); k++) {
                int[][] shape = shapes.get(order.get(k));
                int spot = -1;
                for (int y = 0; spot < 0; y++) {
                    for (int x = 0; x < w && spot < 0; x++) {
                        boolean fits = true;
                        for (int[] s : shape) {
                            fits &= x + s[0] < w && !full[x + s[0]][y + s[1]];
                        }
                        spot = fits ? 100 * y + x : -1;
                    }
                }
                for (int[] s : shape) {
                    full[spot % 100 + s[0]][spot / 100 + s[1]] = true;
                    answers[0] = Math.max(answers[0], spot / 100 + s[1] + 1);
                }
                answers[k + 1] = spot;
            }
            return answers;
        }

        int strip(int w, int n, int order, int what) {
            if (w < 1 || w > 12 || n < 1 || n > 5 || order < 0 || order >= 1 << 3 * n || what < 0 || what > n) {
                return BAD;
            }
            List<Integer> pieces = new ArrayList<>();
            for (int k = 0; k < n; k++) {
                int p = order >> 3 * k & 7;
                if (none(p) || pieces.contains(p) || most(p, 0) > w) {
                    return BAD;
                }
                pieces.add(p);
            }
            return fill(w, pieces)[what];
        }

        int best(int w, int set, int what) {
            if (w < 1 || w > 12 || set <= 0 || set >= 1 << shapes.size() || Integer.bitCount(set) > 5 || what < 0 || what > 1) {
                return BAD;
            }
            List<List<Integer>> orders = new ArrayList<>();
            orders.add(new ArrayList<>());
            for (int k = 0; k < Integer.bitCount(set); k++) {
                List<List<Integer>> longer = new ArrayList<>();
                for (List<Integer> order : orders) {
                    for (int p = 0; p < 8; p++) {
                        if ((set >> p & 1) == 1 && !order.contains(p)) {
                            List<Integer> one = new ArrayList<>(order);
                            one.add(p);
                            longer.add(one);
                        }
                    }
                }
                orders = longer;
            }
            int height = Integer.MAX_VALUE;
            int best = 0;
            for (List<Integer> order : orders) {
                int packed = 0;
                for (int k = 0; k < order.size(); k++) {
                    if (most(order.get(k), 0) > w) {
                        return BAD;
                    }
                    packed |= order.get(k) << 3 * k;
                }
                int reached = fill(w, order)[0];
                if (reached < height) {
                    height = reached;
                    best = packed;
                }
            }
            return what == 0 ? height : best;
        }

        int count(int what) {
            int lying = 0;
            for (boolean one : lies) {
                lying += one ? 1 : 0;
            }
            int found = 0;
            for (boolean[] column : wall) {
                for (boolean one : column) {
                    found += one ? 1 : 0;
                }
            }
            int[] answers = {columns, rows, shapes.size(), lying, found};
            return what < 0 || what > 4 ? BAD : answers[what];
        }
    }
}
