/** Each promise with answers worked out by hand: ordinary calls, the edges that the document names, wrong calls. */
public final class PromiseTests {
    private static final int BAD = -1, NO = -2, FULL = -3, NONE = -4;

    // Shapes: bit 5 r + c is the square in column c, row r.
    private static final int DOT = 1;
    private static final int PAIR = 3;            // two side by side
    private static final int POST = 33;           // two, one above the other
    private static final int CORNER = 35;         // (0,0) (1,0) (0,1)
    private static final int BLOCK = 99;          // 2 by 2
    private static final int RING = 7 + 32 * 5 + 1024 * 7;   // 3 by 3 with a hole in its middle
    private static final int BAR = 31;            // five side by side
    private static final int TOWER = 1082401;     // five, one above the other
    private static final int WHOLE = 33554431;    // 5 by 5
    private static final int TWO_POSTS = 5 + 32 * 5;         // columns 0 and 2, two rows, nothing between
    private static final int CUP = 5 + 32 * 5 + 1024 * 7;    // open at the bottom
    private static final int BOWL = 7 + 32 * 5 + 1024 * 5;   // open at the top

    private static final int[] WRONG_PIECES = {-1, 8, 3, Integer.MIN_VALUE, Integer.MAX_VALUE, 31, 32};
    private static final int[] WRONG_PLACES = {-7, 14, Integer.MIN_VALUE, Integer.MAX_VALUE, -100};
    private static final int[] WRONG_DIRECTIONS = {-1, 4, Integer.MIN_VALUE, Integer.MAX_VALUE};

    private static int wrong = 0;
    private static int asked = 0;

    private static void due(String call, int got, int want) {
        asked++;
        if (got != want) {
            wrong++;
            System.out.println(call + " answered " + got + ", due is " + want);
        }
    }

    public static void main(String[] args) {
        due("BAD", GapPieces.BAD, BAD);
        due("NO", GapPieces.NO, NO);
        due("FULL", GapPieces.FULL, FULL);
        due("NONE", GapPieces.NONE, NONE);
        newObject();
        board();
        walls();
        piece();
        about();
        put();
        away();
        stands();
        slide();
        way();
        stepOf();
        out();
        places();
        blocks();
        blocksAtTheEnds();
        order();
        apart();
        push();
        strip();
        best();
        count();
        System.out.println("PromiseTests: " + asked + " answers, " + wrong + " wrong");
        if (wrong != 0) {
            System.exit(1);
        }
    }

    /** A board with pieces of these shapes, all away. */
    private static GapPieces with(int columns, int rows, int... shapes) {
        GapPieces g = new GapPieces();
        due("board", g.board(columns, rows), columns * rows);
        for (int i = 0; i < shapes.length; i++) {
            due("piece", g.piece(shapes[i]), i);
        }
        return g;
    }

    private static void laid(GapPieces g, int piece, int x, int y) {
        due("put(" + piece + ", " + x + ", " + y + ")", g.put(piece, x, y), 1);
    }

    private static void lies(String when, GapPieces g, int piece, int x, int y) {
        due(when + ": about(" + piece + ", 3)", g.about(piece, 3), x);
        due(when + ": about(" + piece + ", 4)", g.about(piece, 4), y);
        due(when + ": about(" + piece + ", 5)", g.about(piece, 5), 1);
    }

    private static void steps(String when, GapPieces g, int... want) {
        for (int i = 0; i < want.length; i++) {
            due(when + ": stepOf(" + i + ")", g.stepOf(i), want[i]);
        }
        due(when + ": stepOf(" + want.length + ")", g.stepOf(want.length), NONE);
    }

    private static void newObject() {
        GapPieces g = new GapPieces();
        due("1: columns", g.count(0), 1);
        due("1: rows", g.count(1), 1);
        due("1: pieces", g.count(2), 0);
        due("1: lying", g.count(3), 0);
        due("1: walls", g.count(4), 0);
        due("1: no piece", g.about(0, 0), BAD);
        due("1: no way", g.stepOf(0), NONE);
        due("1: nothing stuck", g.apart(-1), 0);
        due("1: no knot", g.order(0, -1), 0);
        due("1: first piece", g.piece(DOT), 0);
        due("1: it stands on the square", g.put(0, 0, 0), 1);
        due("1: it is on the board", g.about(0, 7), 0);
        GapPieces other = new GapPieces();
        due("1: another object has no piece", other.count(2), 0);
        due("1: another object's row", other.walls(0, 1), 1);
        due("1: the first one's walls", g.count(4), 0);
    }

    private static void board() {
        GapPieces g = new GapPieces();
        due("2: board(12, 10)", g.board(12, 10), 120);
        due("2: board(1, 1)", g.board(1, 1), 1);
        due("2: board(12, 1)", g.board(12, 1), 12);
        due("2: board(1, 10)", g.board(1, 10), 10);
        due("2: board(4, 3)", g.board(4, 3), 12);
        due("2: columns", g.count(0), 4);
        due("2: rows", g.count(1), 3);
        g.piece(CORNER);
        g.piece(DOT);
        g.walls(0, 8);
        laid(g, 0, 0, 1);
        due("2: way", g.way(0, 1, 1), 1);
        int[][] wrongSizes = {{0, 3}, {13, 3}, {4, 0}, {4, 11}, {-1, 3}, {4, -1}, {-2, -2}, {0, 0}, {13, 11},
            {Integer.MIN_VALUE, 3}, {Integer.MAX_VALUE, 3}, {4, Integer.MIN_VALUE}, {4, Integer.MAX_VALUE}, {65536, 65536}};
        for (int[] size : wrongSizes) {
            due("2: board(" + size[0] + ", " + size[1] + ")", g.board(size[0], size[1]), BAD);
        }
        due("2: BAD keeps columns", g.count(0), 4);
        due("2: BAD keeps rows", g.count(1), 3);
        due("2: BAD keeps walls", g.count(4), 1);
        lies("2: BAD", g, 0, 0, 1);
        steps("2: BAD", g, 0);
        due("2: a new board", g.board(4, 3), 12);
        due("2: all free", g.count(4), 0);
        due("2: free where the wall was", g.stands(1, 3, 0), 1);
        due("2: all away", g.count(3), 0);
        due("2: away", g.about(0, 5), 0);
        due("2: the pieces are there", g.count(2), 2);
        due("2: the shape is there", g.about(0, 6), CORNER);
        due("2: no way told on it", g.stepOf(0), NONE);
        g.walls(2, 15);
        due("2: fewer rows", g.board(4, 2), 8);
        due("2: more rows", g.board(4, 3), 12);
        due("2: no wall comes back", g.count(4), 0);
    }

    private static void walls() {
        GapPieces g = with(12, 10, BLOCK, RING, DOT);
        due("3: all", g.walls(9, 4095), 4095);
        due("3: walls", g.count(4), 12);
        due("3: others are free", g.walls(9, 2049), 2049);
        due("3: walls", g.count(4), 2);
        due("3: a wall", g.stands(2, 11, 9), 0);
        due("3: a wall", g.stands(2, 0, 9), 0);
        due("3: free", g.stands(2, 10, 9), 1);
        due("3: free below", g.stands(2, 0, 8), 1);
        due("3: around is free", g.stands(2, 12, 9), 1);
        due("3: none", g.walls(9, 0), 0);
        due("3: walls", g.count(4), 0);
        laid(g, 0, 3, 4);
        due("3: on row 4", g.walls(4, 8), NO);
        due("3: on row 4", g.walls(4, 16), NO);
        due("3: on row 5", g.walls(5, 8 + 1024), NO);
        due("3: NO changes nothing", g.count(4), 0);
        due("3: beside it", g.walls(4, 4 + 32), 36);
        due("3: above it", g.walls(6, 24), 24);
        due("3: below it", g.walls(3, 24), 24);
        due("3: NO keeps the walls", g.walls(4, 4095), NO);
        due("3: walls", g.count(4), 6);
        due("3: free again", g.walls(3, 0), 0);
        int[] wrongRows = {-1, 10, Integer.MIN_VALUE, Integer.MAX_VALUE};
        for (int y : wrongRows) {
            due("3: walls(" + y + ", 0)", g.walls(y, 0), BAD);
        }
        int[] wrongBits = {4096, 4097, -1, Integer.MIN_VALUE, Integer.MAX_VALUE, 1 << 30};
        for (int bits : wrongBits) {
            due("3: walls(0, " + bits + ")", g.walls(0, bits), BAD);
        }
        due("3: BAD ahead of NO", g.walls(4, 8 + 4096), BAD);
        due("3: walls", g.count(4), 4);
        due("3: away", g.away(0), 1);
        due("3: now it can", g.walls(4, 8), 8);
        laid(g, 1, 8, 0);
        due("3: a hole is not on it", g.walls(1, 512), 512);
        due("3: the ring is on it", g.walls(1, 512 + 256), NO);
        GapPieces small = with(3, 2, PAIR);
        due("3: bits of three columns", small.walls(1, 8), BAD);
        due("3: row 2 of two", small.walls(2, 1), BAD);
        laid(small, 0, 2, 1);
        due("3: half on the board", small.walls(1, 4), NO);
        due("3: half on the board, other squares", small.walls(1, 3), 3);
        due("3: the other half is not there", small.walls(1, 1), 1);
        laid(small, 0, -1, 0);
        due("3: half on the board, left", small.walls(0, 1), NO);
        due("3: half on the board, left, other squares", small.walls(0, 6), 6);
        laid(small, 0, 0, 5);
        due("3: above the board", small.walls(0, 7), 7);
    }

    private static void piece() {
        GapPieces g = new GapPieces();
        int[] wrongShapes = {0, -1, 33554432, 33554433, Integer.MIN_VALUE, Integer.MAX_VALUE, -33554431};
        for (int shape : wrongShapes) {
            due("4: piece(" + shape + ")", g.piece(shape), BAD);
        }
        due("4: none came", g.count(2), 0);
        due("4: first", g.piece(WHOLE), 0);
        due("4: one square far off", g.piece(1 << 24), 1);
        due("4: slid to the corner", g.about(1, 6), DOT);
        due("4: two that do not hang together", g.piece((1 << 24) + 1), 2);
        due("4: as they are", g.about(2, 6), (1 << 24) + 1);
        due("4: slid left alone", g.piece(4 + 128), 3);
        due("4: slid left alone", g.about(3, 6), POST);
        due("4: slid down alone", g.piece(PAIR << 10), 4);
        due("4: slid down alone", g.about(4, 6), PAIR);
        due("4: corners apart", g.piece((1 << 12) + (1 << 8)), 5);
        due("4: column 0 and row 0 by two squares", g.about(5, 6), 2 + 32);
        due("4: BAD takes no number", g.piece(0), BAD);
        due("4: seventh", g.piece(1 << 20), 6);
        due("4: from row 4", g.about(6, 6), DOT);
        due("4: eighth", g.piece(1 << 4), 7);
        due("4: from column 4", g.about(7, 6), DOT);
        due("4: FULL", g.piece(DOT), FULL);
        due("4: FULL again", g.piece(WHOLE), FULL);
        due("4: BAD ahead of FULL", g.piece(0), BAD);
        due("4: eight", g.count(2), 8);
        due("4: away at first", g.count(3), 0);
        due("4: away at first", g.about(7, 5), 0);
        due("4: a new board does not take them", g.board(2, 2), 4);
        due("4: FULL", g.piece(DOT), FULL);
        due("4: shape kept", g.about(0, 6), WHOLE);
    }

    private static void about() {
        GapPieces g = with(4, 3, CORNER, TOWER, (1 << 24) + 1);
        int[][] want = {{3, 2, 2}, {5, 1, 5}, {2, 5, 5}};
        for (int p = 0; p < 3; p++) {
            for (int what = 0; what < 3; what++) {
                due("5: about(" + p + ", " + what + ")", g.about(p, what), want[p][what]);
            }
            due("5: away, x", g.about(p, 3), -100);
            due("5: away, y", g.about(p, 4), -100);
            due("5: away, lies", g.about(p, 5), 0);
            due("5: away, out", g.about(p, 7), 0);
        }
        due("5: shape", g.about(0, 6), CORNER);
        laid(g, 0, 2, 1);
        due("5: x", g.about(0, 3), 2);
        due("5: y", g.about(0, 4), 1);
        due("5: lies", g.about(0, 5), 1);
        due("5: shape", g.about(0, 6), CORNER);
        due("5: not out", g.about(0, 7), 0);
        laid(g, 0, -1, -1);
        due("5: its missing square would be on the board", g.about(0, 7), 1);
        lies("5: below nothing", g, 0, -1, -1);
        laid(g, 0, -1, 0);
        due("5: one square on the board", g.about(0, 7), 0);
        laid(g, 0, 4, 0);
        due("5: out at the right", g.about(0, 7), 1);
        laid(g, 0, 3, 2);
        due("5: a corner on the board", g.about(0, 7), 0);
        laid(g, 0, 3, 3);
        due("5: out above", g.about(0, 7), 1);
        laid(g, 2, -4, -4);
        due("5: its far square is on the board", g.about(2, 7), 0);
        laid(g, 0, 13, 13);
        laid(g, 2, -1, -1);
        due("5: the board lies between its squares", g.about(2, 7), 1);
        due("5: away", g.away(0), 1);
        due("5: away again, x", g.about(0, 3), -100);
        due("5: away again, y", g.about(0, 4), -100);
        due("5: away again, out", g.about(0, 7), 0);
        for (int what : new int[] {-1, 8, Integer.MIN_VALUE, Integer.MAX_VALUE}) {
            due("5: about(0, " + what + ")", g.about(0, what), BAD);
        }
        for (int p : WRONG_PIECES) {
            for (int what = 0; what < 8; what++) {
                due("5: about(" + p + ", " + what + ")", g.about(p, what), BAD);
            }
        }
    }

    private static void put() {
        GapPieces g = with(4, 3, CORNER, PAIR, DOT);
        g.walls(1, 4);
        due("6: ordinary", g.put(0, 0, 0), 1);
        lies("6: put", g, 0, 0, 0);
        due("6: to a place that shares squares with its own", g.put(0, 1, 0), 1);
        lies("6: put", g, 0, 1, 0);
        due("6: to where it lies", g.put(0, 1, 0), 1);
        due("6: a wall, though it lies", g.put(0, 2, 0), NO);
        lies("6: NO", g, 0, 1, 0);
        due("6: another piece, though away", g.put(1, 2, 0), NO);
        due("6: NO leaves it away", g.about(1, 5), 0);
        due("6: a wall, though away", g.put(2, 2, 1), NO);
        due("6: touching is nothing", g.put(2, 3, 0), 1);
        due("6: into the notch there is a wall", g.put(1, 2, 1), NO);
        due("6: another place", g.put(1, 0, 2), 1);
        for (int corner = 0; corner < 4; corner++) {
            int x = (corner & 1) == 0 ? -6 : 13;
            int y = (corner & 2) == 0 ? -6 : 13;
            due("6: put(2, " + x + ", " + y + ")", g.put(2, x, y), 1);
            lies("6: corner", g, 2, x, y);
            due("6: out there", g.about(2, 7), 1);
        }
        due("6: on a piece outside", g.put(1, 12, 13), NO);
        due("6: through walls", g.put(2, 3, 1), 1);
        for (int place : WRONG_PLACES) {
            due("6: put(0, " + place + ", 0)", g.put(0, place, 0), BAD);
            due("6: put(0, 0, " + place + ")", g.put(0, 0, place), BAD);
        }
        lies("6: BAD", g, 0, 1, 0);
        for (int p : WRONG_PIECES) {
            due("6: put(" + p + ", 0, 0)", g.put(p, 0, 0), BAD);
        }
        due("6: an away piece is in nobody's way", g.away(0), 1);
        due("6: there", g.put(1, 0, 0), 1);
        due("6: back is taken", g.put(0, 1, 0), NO);
        GapPieces holes = with(5, 5, RING, DOT, CORNER);
        laid(holes, 0, 1, 1);
        due("6: in the hole", holes.put(1, 2, 2), 1);
        due("6: too big for the hole", holes.put(2, 2, 2), NO);
        due("6: around a piece", holes.put(0, 1, 1), 1);
        due("6: on a piece", holes.put(0, 1, 2), NO);
    }

    private static void away() {
        GapPieces g = with(3, 3, DOT, PAIR);
        due("7: it was", g.away(0), 0);
        laid(g, 0, 1, 1);
        laid(g, 1, 0, 0);
        due("7: goes", g.away(0), 1);
        due("7: gone", g.about(0, 5), 0);
        due("7: x", g.about(0, 3), -100);
        due("7: the other lies", g.about(1, 5), 1);
        due("7: it was", g.away(0), 0);
        due("7: lying", g.count(3), 1);
        due("7: its square is free", g.stands(1, 1, 1), 1);
        due("7: still a piece", g.count(2), 2);
        due("7: can come back", g.put(0, 2, 2), 1);
        for (int p : WRONG_PIECES) {
            due("7: away(" + p + ")", g.away(p), BAD);
        }
        due("7: BAD takes none", g.count(3), 2);
    }

    private static void stands() {
        GapPieces g = with(4, 4, CORNER, PAIR, BLOCK);
        g.walls(2, 2);
        due("8: free", g.stands(0, 0, 0), 1);
        due("8: a wall under column 1", g.stands(0, 0, 2), 0);
        due("8: a wall under row 1", g.stands(0, 1, 1), 0);
        due("8: the wall lies in its notch", g.stands(0, 0, 1), 1);
        laid(g, 1, 2, 0);
        due("8: another piece", g.stands(0, 1, 0), 0);
        due("8: beside another piece", g.stands(0, 0, 0), 1);
        due("8: its own place", g.stands(1, 2, 0), 1);
        due("8: over its own place", g.stands(1, 3, 0), 1);
        due("8: off the board", g.stands(2, -6, 13), 1);
        due("8: half off the board", g.stands(2, -1, 3), 1);
        due("8: half off the board", g.stands(2, 3, 3), 1);
        due("8: nothing moved", g.about(0, 5), 0);
        lies("8: nothing moved", g, 1, 2, 0);
        laid(g, 1, 13, -6);
        due("8: outside on a piece", g.stands(2, 13, -6), 0);
        due("8: outside on its far half", g.stands(2, 12, -6), 0);
        due("8: outside beside it", g.stands(2, 11, -6), 1);
        due("8: outside above it", g.stands(2, 13, -5), 1);
        for (int place : WRONG_PLACES) {
            due("8: stands(0, " + place + ", 0)", g.stands(0, place, 0), BAD);
            due("8: stands(0, 0, " + place + ")", g.stands(0, 0, place), BAD);
        }
        for (int p : WRONG_PIECES) {
            due("8: stands(" + p + ", 0, 0)", g.stands(p, 0, 0), BAD);
        }
    }

    private static void slide() {
        GapPieces g = with(6, 4, PAIR, DOT, BLOCK);
        due("9: away", g.slide(0, 0, 1), NO);
        laid(g, 0, 0, 0);
        due("9: right", g.slide(0, 0, 2), 2);
        lies("9: right", g, 0, 2, 0);
        due("9: up", g.slide(0, 1, 3), 3);
        lies("9: up", g, 0, 2, 3);
        due("9: left", g.slide(0, 2, 1), 1);
        lies("9: left", g, 0, 1, 3);
        due("9: down", g.slide(0, 3, 2), 2);
        lies("9: down", g, 0, 1, 1);
        laid(g, 1, 5, 1);
        due("9: up to a piece", g.slide(0, 0, 20), 2);
        lies("9: up to a piece", g, 0, 3, 1);
        due("9: no step", g.slide(0, 0, 1), 0);
        lies("9: no step", g, 0, 3, 1);
        g.walls(3, 16);
        due("9: up to a wall", g.slide(0, 1, 5), 1);
        lies("9: up to a wall", g, 0, 3, 2);
        due("9: to the left end", g.slide(0, 2, 20), 9);
        lies("9: to the left end", g, 0, -6, 2);
        due("9: no further", g.slide(0, 2, 1), 0);
        due("9: to the lower end", g.slide(0, 3, 20), 8);
        lies("9: to the lower end", g, 0, -6, -6);
        due("9: all the way right", g.slide(0, 0, 20), 19);
        lies("9: all the way right", g, 0, 13, -6);
        due("9: all the way up", g.slide(0, 1, 19), 19);
        lies("9: all the way up", g, 0, 13, 13);
        due("9: no further up", g.slide(0, 1, 20), 0);
        due("9: all the way left but one", g.slide(0, 2, 18), 18);
        due("9: away is NO", g.slide(2, 0, 1), NO);
        for (int d : WRONG_DIRECTIONS) {
            due("9: slide(0, " + d + ", 1)", g.slide(0, d, 1), BAD);
            due("9: BAD ahead of NO", g.slide(2, d, 1), BAD);
        }
        for (int n : new int[] {0, 21, -1, Integer.MIN_VALUE, Integer.MAX_VALUE}) {
            due("9: slide(0, 0, " + n + ")", g.slide(0, 0, n), BAD);
            due("9: BAD ahead of NO", g.slide(2, 0, n), BAD);
        }
        for (int p : WRONG_PIECES) {
            due("9: slide(" + p + ", 0, 1)", g.slide(p, 0, 1), BAD);
        }
        lies("9: BAD", g, 0, -5, 13);
        // A piece is not stopped by its own squares, and passes a hole that fits.
        GapPieces post = with(5, 5, TWO_POSTS, DOT);
        laid(post, 0, 0, 0);
        laid(post, 1, 1, 4);
        due("9: between the posts and out below", post.slide(1, 3, 20), 10);
        laid(post, 1, 1, 1);
        due("9: held by the posts", post.slide(1, 0, 3), 0);
    }

    private static void way() {
        GapPieces g = with(5, 5, DOT, PAIR, BLOCK);
        due("10: away", g.way(0, 0, 0), NO);
        laid(g, 0, 1, 1);
        due("10: to where it lies", g.way(0, 1, 1), 0);
        steps("10: none", g);
        due("10: straight", g.way(0, 4, 1), 3);
        steps("10: straight", g, 0, 0, 0);
        due("10: right ahead of up", g.way(0, 3, 2), 3);
        steps("10: right ahead of up", g, 0, 0, 1);
        due("10: up ahead of left", g.way(0, 0, 2), 2);
        steps("10: up ahead of left", g, 1, 2);
        due("10: left ahead of down", g.way(0, 0, 0), 2);
        steps("10: left ahead of down", g, 2, 3);
        due("10: right ahead of down", g.way(0, 2, 0), 2);
        steps("10: right ahead of down", g, 0, 3);
        lies("10: nothing moves", g, 0, 1, 1);
        g.walls(2, 31);
        g.walls(1, 0);
        // Around the end of the wall, outside the board: either side is as near from (2,1); right is less.
        laid(g, 0, 2, 1);
        due("10: around", g.way(0, 2, 3), 8);
        steps("10: around", g, 0, 0, 0, 1, 1, 2, 2, 2);
        laid(g, 1, 5, 2);
        due("10: around the other end", g.way(0, 2, 3), 8);
        steps("10: around the other end", g, 2, 2, 2, 1, 1, 0, 0, 0);
        due("10: to a wall", g.way(0, 2, 2), NONE);
        due("10: to another piece", g.way(0, 5, 2), NONE);
        steps("10: NONE keeps the latest that was told", g, 2, 2, 2, 1, 1, 0, 0, 0);
        due("10: through a corner there is no way", g.board(3, 3), 9);
        g.walls(0, 2);
        g.walls(1, 5);
        laid(g, 0, 1, 1);
        due("10: a wall above is not there", g.way(0, 1, 2), 1);
        g.walls(2, 2);
        due("10: shut in", g.way(0, 0, 0), NONE);
        due("10: shut in, to where it lies", g.way(0, 1, 1), 0);
        due("10: out to the end", g.way(0, 13, 13), NONE);
        due("10: away", g.away(0), 1);
        due("10: away", g.way(0, 1, 1), NO);
        laid(g, 0, -6, -6);
        due("10: from end to end", g.way(0, 13, 13), 38);
        due("10: first step", g.stepOf(0), 0);
        due("10: last step", g.stepOf(37), 1);
        due("10: no more", g.stepOf(38), NONE);
        for (int place : WRONG_PLACES) {
            due("10: way(0, " + place + ", 0)", g.way(0, place, 0), BAD);
            due("10: way(0, 0, " + place + ")", g.way(0, 0, place), BAD);
            due("10: BAD ahead of NO", g.way(2, 0, place), BAD);
        }
        for (int p : WRONG_PIECES) {
            due("10: way(" + p + ", 0, 0)", g.way(p, 0, 0), BAD);
        }
        wayOfLargePieces();
    }

    private static void wayOfLargePieces() {
        // A gap of one square in a wall of the whole board: the dot goes through, the pair that lies flat goes around.
        GapPieces g = with(12, 3, DOT, PAIR, POST);
        g.walls(1, 4095 - 32);
        laid(g, 0, 5, 0);
        due("10: through the gap", g.way(0, 5, 2), 2);
        steps("10: through the gap", g, 1, 1);
        due("10: away", g.away(0), 1);
        laid(g, 1, 5, 0);
        due("10: too wide: around the right end", g.way(1, 5, 2), 16);
        due("10: first", g.stepOf(0), 0);
        due("10: up after seven", g.stepOf(6), 0);
        due("10: up after seven", g.stepOf(7), 1);
        due("10: away", g.away(1), 1);
        laid(g, 2, 5, -1);
        due("10: upright it fits", g.way(2, 5, 2), 3);
        laid(g, 0, 5, 5);
        due("10: what lies in the way", g.way(2, 5, 6), 9);
        steps("10: what lies in the way", g, 1, 1, 1, 0, 1, 1, 1, 1, 2);
    }

    private static void stepOf() {
        GapPieces g = with(5, 5, DOT, PAIR);
        due("11: none told", g.stepOf(0), NONE);
        due("11: none told", g.stepOf(Integer.MAX_VALUE), NONE);
        due("11: stepOf(-1)", g.stepOf(-1), BAD);
        due("11: stepOf(MIN)", g.stepOf(Integer.MIN_VALUE), BAD);
        laid(g, 0, 0, 0);
        due("11: way", g.way(0, 2, 1), 3);
        steps("11: told", g, 0, 0, 1);
        due("11: far", g.stepOf(399), NONE);
        due("11: far", g.stepOf(400), NONE);
        due("11: far", g.stepOf(Integer.MAX_VALUE), NONE);
        due("11: stepOf(-1)", g.stepOf(-1), BAD);
        due("11: BAD", g.way(0, 14, 0), BAD);
        due("11: NO", g.way(1, 0, 0), NO);
        steps("11: kept after BAD and NO", g, 0, 0, 1);
        due("11: slide", g.slide(0, 1, 1), 1);
        due("11: out", g.out(0), 1);
        due("11: walls", g.walls(4, 3), 3);
        due("11: away", g.away(0), 1);
        due("11: apart", g.apart(-1), 0);
        steps("11: kept after other calls", g, 0, 0, 1);
        laid(g, 1, 0, 0);
        due("11: another way", g.way(1, 0, 1), 1);
        steps("11: the latest", g, 1);
        due("11: none to there", g.way(1, 0, 4), NONE);
        steps("11: the latest that was told", g, 1);
        due("11: a way of no step", g.way(1, 0, 0), 0);
        steps("11: it has none", g);
        due("11: way", g.way(1, 1, 0), 1);
        due("11: a new board that is none", g.board(0, 1), BAD);
        steps("11: kept", g, 0);
        due("11: a new board", g.board(5, 5), 25);
        steps("11: none on this board", g);
    }

    private static void out() {
        GapPieces g = with(5, 4, DOT, PAIR, RING);
        due("12: away", g.out(0), NO);
        laid(g, 0, 2, 1);
        due("12: down is nearest", g.out(0), 2);
        laid(g, 0, 2, 3);
        due("12: up", g.out(0), 1);
        laid(g, 0, 4, 2);
        due("12: right", g.out(0), 1);
        laid(g, 0, 5, 2);
        due("12: it is", g.out(0), 0);
        laid(g, 0, 13, 13);
        due("12: it is", g.out(0), 0);
        laid(g, 1, 0, 1);
        due("12: both its squares", g.out(1), 2);
        laid(g, 1, -1, 1);
        due("12: half of it is", g.out(1), 1);
        laid(g, 0, -1, 2);
        laid(g, 1, 0, 2);
        due("12: a piece in its way", g.out(1), 2);
        lies("12: nothing moves", g, 1, 0, 2);
        due("12: away", g.away(1), 1);
        laid(g, 2, 1, 1);
        laid(g, 0, 2, 2);
        due("12: in a ring", g.out(0), NONE);
        due("12: the ring around it", g.out(2), NONE);
        for (int p : WRONG_PIECES) {
            due("12: out(" + p + ")", g.out(p), BAD);
        }
        g.board(3, 3);
        g.walls(0, 5);
        g.walls(1, 5);
        g.walls(2, 7);
        laid(g, 0, 1, 1);
        due("12: one way alone", g.out(0), 2);
        g.walls(0, 7);
        due("12: walls all around", g.out(0), NONE);
        due("12: away", g.away(0), 1);
        due("12: away is NO", g.out(0), NO);
        g.board(1, 1);
        laid(g, 2, -1, -1);
        due("12: the board lies in its hole", g.out(2), 0);
        due("12: the wall too", g.walls(0, 1), 1);
        due("12: it is out all the same", g.out(2), 0);
        due("12: out", g.about(2, 7), 1);
    }

    private static void places() {
        GapPieces g = with(5, 4, DOT, PAIR, WHOLE, RING, CUP);
        due("13: all squares", g.places(0, 0), 20);
        due("13: four by four", g.places(1, 0), 16);
        due("13: too high", g.places(2, 0), 0);
        due("13: three by two", g.places(3, 0), 6);
        due("13: no room inside", g.places(0, 1), 0);
        g.walls(1, 4);
        due("13: a wall", g.places(0, 0), 19);
        due("13: a wall", g.places(1, 0), 14);
        due("13: the wall in its hole", g.places(3, 0), 1);
        laid(g, 0, 2, 2);
        due("13: a piece", g.places(1, 0), 12);
        due("13: its own place counts", g.places(0, 0), 19);
        laid(g, 1, 0, 0);
        due("13: its own place is free for it", g.places(1, 0), 12);
        due("13: not for others", g.places(0, 0), 17);
        laid(g, 1, 0, -1);
        due("13: off the board", g.places(0, 0), 19);
        rooms();
        for (int what : new int[] {-1, 2, Integer.MIN_VALUE, Integer.MAX_VALUE}) {
            due("13: places(0, " + what + ")", g.places(0, what), BAD);
        }
        for (int p : new int[] {-1, 8, 5, Integer.MIN_VALUE, Integer.MAX_VALUE, 32}) {
            due("13: places(" + p + ", 0)", g.places(p, 0), BAD);
            due("13: places(" + p + ", 1)", g.places(p, 1), BAD);
        }
    }

    private static void rooms() {
        GapPieces g = with(5, 5, DOT, PAIR, RING, POST);
        g.walls(0, 31);
        g.walls(1, 21);
        g.walls(2, 31);
        g.walls(3, 17);
        g.walls(4, 31);
        due("13: three rooms", g.places(0, 1), 3);
        due("13: the widest one", g.places(1, 1), 1);
        due("13: none so high", g.places(3, 1), 0);
        laid(g, 0, 2, 3);
        due("13: its own square is no border", g.places(0, 1), 3);
        due("13: a piece in the widest one", g.places(1, 1), 0);
        g.walls(2, 29);
        due("13: a door between two", g.places(0, 1), 2);
        g.walls(4, 29);
        due("13: a door to outside", g.places(0, 1), 1);
        g.walls(1, 17);
        due("13: all one", g.places(0, 1), 0);
        g.walls(2, 27);
        g.walls(4, 31);
        due("13: in one room", g.places(0, 1), 1);
        due("13: a dot leaves one of two places", g.places(1, 1), 1);
        g.away(0);
        due("13: rooms one above the other, the door too narrow", g.places(1, 1), 2);
        g.board(5, 5);
        laid(g, 2, 1, 1);
        due("13: in the ring", g.places(0, 1), 1);
        due("13: corners do not join", g.walls(0, 2), 2);
        g.walls(1, 1);
        due("13: in the ring and in the corner outside it is not", g.places(0, 1), 1);
        laid(g, 2, 7, 1);
        due("13: in a ring outside it is out", g.places(0, 1), 0);
        laid(g, 2, 4, 1);
        due("13: its hole is off the board", g.places(0, 1), 0);
        laid(g, 2, 3, 1);
        due("13: its hole is on the board", g.places(0, 1), 1);
    }

    private static void blocks() {
        GapPieces g = with(8, 8, DOT, DOT, DOT, PAIR, CUP);
        due("14: away", g.blocks(0, 0), NO);
        laid(g, 0, 3, 3);
        due("14: alone", g.blocks(0, 0), 0);
        laid(g, 1, 6, 3);
        laid(g, 2, 3, 7);
        due("14: right", g.blocks(0, 0), 2);
        due("14: up", g.blocks(0, 1), 4);
        due("14: left", g.blocks(0, 2), 0);
        due("14: down", g.blocks(0, 3), 0);
        due("14: the one it blocks, left", g.blocks(1, 2), 1);
        due("14: the one it blocks, down", g.blocks(2, 3), 1);
        due("14: not the other way", g.blocks(1, 0), 0);
        due("14: not the other way", g.blocks(2, 1), 0);
        laid(g, 3, 7, 3);
        due("14: one behind another blocks too", g.blocks(0, 0), 10);
        g.walls(3, 16);
        due("14: walls count for nothing", g.blocks(0, 0), 10);
        laid(g, 3, 12, 3);
        due("14: off the board", g.blocks(0, 0), 10);
        laid(g, 3, 13, 3);
        due("14: beyond the places", g.blocks(0, 0), 10);
        laid(g, 0, -6, 3);
        due("14: from end to end", g.blocks(0, 0), 10);
        due("14: from end to end, left", g.blocks(3, 2), 3);
        laid(g, 3, 2, 4);
        due("14: two columns, one touches", g.blocks(3, 1), 4);
        due("14: beside is not above", g.blocks(3, 0), 0);
        laid(g, 4, -6, -6);
        laid(g, 0, -5, -6);
        due("14: in the cup, right", g.blocks(0, 0), 16);
        due("14: in the cup, up", g.blocks(0, 1), 16);
        due("14: in the cup, left", g.blocks(0, 2), 16);
        due("14: in the cup, down it goes", g.blocks(0, 3), 0);
        due("14: the cup around it, right", g.blocks(4, 0), 1);
        due("14: the cup around it, up", g.blocks(4, 1), 0);
        due("14: the cup around it, down", g.blocks(4, 3), 1);
        due("14: away", g.away(1), 1);
        due("14: away blocks none", g.blocks(0, 0), 16);
        due("14: away is NO", g.blocks(1, 0), NO);
        for (int d : WRONG_DIRECTIONS) {
            due("14: blocks(0, " + d + ")", g.blocks(0, d), BAD);
            due("14: BAD ahead of NO", g.blocks(1, d), BAD);
        }
        for (int p : new int[] {-1, 5, 8, Integer.MIN_VALUE, Integer.MAX_VALUE, 32}) {
            due("14: blocks(" + p + ", 0)", g.blocks(p, 0), BAD);
        }
    }

    /** Squares of a piece reach four beyond the places: column 17, row 17. */
    private static void blocksAtTheEnds() {
        GapPieces g = with(12, 10, 1 + (1 << 21), 1 + (1 << 9), DOT, DOT);
        laid(g, 0, 0, 13);
        laid(g, 2, 1, 13);
        due("14: from row 17 down", g.blocks(0, 3), 4);
        due("14: up to row 17", g.blocks(2, 1), 1);
        laid(g, 2, 1, -6);
        due("14: from row 17 down to row -6", g.blocks(0, 3), 4);
        due("14: from row -6 up to row 17", g.blocks(2, 1), 1);
        laid(g, 1, 13, 0);
        laid(g, 3, 13, 1);
        due("14: from column 17 left", g.blocks(1, 2), 8);
        due("14: right to column 17", g.blocks(3, 0), 2);
        laid(g, 3, -6, 1);
        due("14: from column 17 left to column -6", g.blocks(1, 2), 8);
        due("14: from column -6 right to column 17", g.blocks(3, 0), 2);
    }

    private static void order() {
        GapPieces g = with(8, 8, DOT, DOT, DOT, DOT);
        due("15: none lies", g.order(0, 0), NONE);
        due("15: none lies, the knot", g.order(0, -1), 0);
        laid(g, 0, 0, 0);
        laid(g, 1, 3, 0);
        laid(g, 2, 6, 0);
        int[][] want = {{2, 1, 0}, {0, 1, 2}, {0, 1, 2}, {0, 1, 2}};
        for (int d = 0; d < 4; d++) {
            for (int i = 0; i < 3; i++) {
                due("15: order(" + d + ", " + i + ")", g.order(d, i), want[d][i]);
            }
            due("15: the away one goes in none", g.order(d, 3), NONE);
            due("15: no knot", g.order(d, -1), 0);
        }
        laid(g, 3, 6, 6);
        due("15: the lowest that can, again and again", g.order(0, 0), 2);
        due("15: the lowest that can, again and again", g.order(0, 1), 1);
        due("15: the lowest that can, again and again", g.order(0, 2), 0);
        due("15: the lowest that can, again and again", g.order(0, 3), 3);
        due("15: upwards the third waits", g.order(1, 2), 3);
        due("15: upwards the third waits", g.order(1, 3), 2);
        due("15: nothing moves", g.count(3), 4);
        due("15: far", g.order(0, 4), NONE);
        due("15: far", g.order(0, 8), NONE);
        due("15: far", g.order(0, Integer.MAX_VALUE), NONE);
        due("15: order(0, -2)", g.order(0, -2), BAD);
        due("15: order(0, MIN)", g.order(0, Integer.MIN_VALUE), BAD);
        for (int d : WRONG_DIRECTIONS) {
            due("15: order(" + d + ", 0)", g.order(d, 0), BAD);
            due("15: order(" + d + ", -1)", g.order(d, -1), BAD);
        }
        knots();
    }

    private static void knots() {
        // Cup and bowl, an arm of each in the other, hold each other left and right, not up and down.
        GapPieces g = with(8, 8, DOT, RING, PAIR, DOT);
        laid(g, 1, 2, 2);
        laid(g, 0, 3, 3);
        for (int d = 0; d < 4; d++) {
            due("15: the ring and what is in it", g.order(d, -1), 3);
            due("15: none goes", g.order(d, 0), NONE);
        }
        laid(g, 2, 6, 2);
        due("15: one goes", g.order(0, 0), 2);
        due("15: the knot is left", g.order(0, -1), 3);
        due("15: no second", g.order(0, 1), NONE);
        due("15: behind the knot", g.order(2, -1), 7);
        due("15: behind the knot none goes", g.order(2, 0), NONE);
        laid(g, 3, 7, 7);
        due("15: after the knot one goes", g.order(2, 0), 3);
        due("15: the knot", g.order(2, -1), 7);
        GapPieces hooks = with(8, 8, CUP, BOWL);
        laid(hooks, 0, 2, 3);
        laid(hooks, 1, 3, 1);
        due("15: hooked, right", hooks.order(0, -1), 3);
        due("15: hooked, left", hooks.order(2, -1), 3);
        due("15: up the cup goes first", hooks.order(1, 0), 0);
        due("15: up the bowl goes then", hooks.order(1, 1), 1);
        due("15: down the bowl goes first", hooks.order(3, 0), 1);
        due("15: down the cup goes then", hooks.order(3, 1), 0);
    }

    private static void apart() {
        GapPieces g = with(6, 6, DOT, RING, PAIR, DOT);
        due("16: none lies", g.apart(0), NONE);
        due("16: none lies", g.apart(-1), 0);
        laid(g, 2, 0, 0);
        due("16: one", g.apart(0), 2);
        due("16: no more", g.apart(1), NONE);
        laid(g, 1, 1, 1);
        laid(g, 0, 2, 2);
        due("16: the pair goes first", g.apart(0), 2);
        due("16: the ring and its dot are stuck", g.apart(-1), 3);
        due("16: no second", g.apart(1), NONE);
        due("16: nothing moves", g.count(3), 3);
        lies("16: nothing moves", g, 2, 0, 0);
        laid(g, 0, 0, 5);
        laid(g, 3, 13, 13);
        due("16: the lowest first", g.apart(0), 0);
        due("16: then the next", g.apart(1), 1);
        due("16: then the next", g.apart(2), 2);
        due("16: what is out goes too", g.apart(3), 3);
        due("16: none stuck", g.apart(-1), 0);
        due("16: no more", g.apart(4), NONE);
        due("16: far", g.apart(8), NONE);
        due("16: far", g.apart(Integer.MAX_VALUE), NONE);
        due("16: apart(-2)", g.apart(-2), BAD);
        due("16: apart(MIN)", g.apart(Integer.MIN_VALUE), BAD);
        // A yard with one door: 0 is behind 3, which is behind 2.
        g.board(5, 3);
        g.walls(0, 31);
        g.walls(1, 1);
        g.walls(2, 31);
        laid(g, 0, 1, 1);
        laid(g, 3, 2, 1);
        laid(g, 2, 3, 1);
        due("16: the one at the door", g.apart(0), 2);
        due("16: then the one behind it", g.apart(1), 3);
        due("16: then the lowest", g.apart(2), 0);
        due("16: none stuck", g.apart(-1), 0);
        g.away(2);
        g.walls(1, 17);
        due("16: the door is shut", g.apart(-1), 9);
        due("16: the door is shut", g.apart(0), NONE);
        laid(g, 2, 6, 6);
        due("16: one goes", g.apart(0), 2);
        due("16: two are stuck", g.apart(-1), 9);
        due("16: no way is told by it", g.stepOf(0), NONE);
    }

    private static void push() {
        GapPieces g = with(3, 3, DOT, BLOCK, WHOLE, TWO_POSTS, BAR, TOWER, 2 + 32);
        int[][] want = {
            // a, b, dx, dy
            {0, 1, -1, 0}, {1, 0, 0, 1}, {0, 2, -1, 0}, {2, 0, 0, 1}, {1, 2, -2, 0}, {2, 1, 0, 2},
            {3, 1, 0, -2}, {1, 3, -2, 0}, {4, 5, 0, -1}, {5, 4, -1, 0}, {0, 6, 0, 0}, {6, 0, 0, 0},
            {2, 5, 1, 0}, {5, 2, -1, 0}, {2, 4, 0, 1}, {4, 2, 0, -1}, {6, 1, -2, 0}, {0, 4, -1, 0}};
        for (int[] row : want) {
            due("17: push(" + row[0] + ", " + row[1] + ", 0)", g.push(row[0], row[1], 0), row[2]);
            due("17: push(" + row[0] + ", " + row[1] + ", 1)", g.push(row[0], row[1], 1), row[3]);
        }
        laid(g, 0, 5, 5);
        laid(g, 1, -5, 2);
        due("17: where they lie counts for nothing", g.push(0, 1, 0), -1);
        GapPieces alike = with(1, 1, WHOLE, WHOLE, BAR, BAR, TOWER, TOWER);
        due("17: five off", alike.push(0, 1, 0), -5);
        due("17: five off", alike.push(0, 1, 1), 0);
        due("17: one off", alike.push(2, 3, 0), 0);
        due("17: one off, down", alike.push(2, 3, 1), -1);
        due("17: one off, left", alike.push(4, 5, 0), -1);
        due("17: one off, left", alike.push(4, 5, 1), 0);
        for (int a : new int[] {-1, 6, 7, 8, Integer.MIN_VALUE, Integer.MAX_VALUE}) {
            due("17: push(" + a + ", 0, 0)", alike.push(a, 0, 0), -1000);
            due("17: push(0, " + a + ", 0)", alike.push(0, a, 0), -1000);
            due("17: push(" + a + ", " + a + ", 0)", alike.push(a, a, 0), -1000);
        }
        for (int what : new int[] {-1, 2, Integer.MIN_VALUE, Integer.MAX_VALUE}) {
            due("17: push(0, 1, " + what + ")", alike.push(0, 1, what), -1000);
        }
        due("17: off itself", alike.push(1, 1, 0), -1000);
        due("17: off itself", alike.push(1, 1, 1), -1000);
    }

    private static int packed(int... pieces) {
        int order = 0;
        for (int k = 0; k < pieces.length; k++) {
            order |= pieces[k] << 3 * k;
        }
        return order;
    }

    /** The height first, then the spots. */
    private static void filled(GapPieces g, int w, int order, int... want) {
        int n = want.length - 1;
        for (int what = 0; what <= n; what++) {
            due("18: strip(" + w + ", " + n + ", " + order + ", " + what + ")", g.strip(w, n, order, what), want[what]);
        }
    }

    private static void strip() {
        GapPieces g = with(1, 1, BLOCK, DOT, BAR, TOWER, TWO_POSTS, RING, CORNER, WHOLE);
        filled(g, 2, packed(0), 2, 0);
        filled(g, 12, packed(0), 2, 0);
        filled(g, 5, packed(0, 1, 2), 3, 0, 2, 200);
        filled(g, 5, packed(2, 0, 1), 3, 0, 100, 102);
        filled(g, 5, packed(1, 0, 2), 3, 0, 1, 200);
        filled(g, 3, packed(0, 3, 1), 5, 0, 2, 200);
        // Nothing need slide: the dot drops between the posts' roof, and into the ring.
        filled(g, 3, packed(5, 1), 3, 0, 101);
        filled(g, 5, packed(4, 3, 1), 5, 0, 1, 3);
        filled(g, 3, packed(4, 0), 4, 0, 200);
        filled(g, 4, packed(4, 6), 4, 0, 200);
        filled(g, 2, packed(6, 1), 2, 0, 101);
        filled(g, 1, packed(3, 1), 6, 0, 500);
        filled(g, 12, packed(7, 2, 0, 1, 6), 5, 0, 5, 10, 105, 106);
        filled(g, 5, packed(7, 2, 3, 5, 1), 11, 0, 500, 600, 601, 604);
        due("18: where the pieces lie counts for nothing", g.put(1, 0, 0), 1);
        filled(g, 5, packed(0, 1, 2), 3, 0, 2, 200);
        lies("18: nothing moves", g, 1, 0, 0);
        badStrips(g);
        GapPieces few = with(1, 1, DOT, PAIR);
        due("18: no such piece", few.strip(3, 1, 2, 0), BAD);
        due("18: no such piece", few.strip(3, 2, packed(0, 7), 0), BAD);
        due("18: first is none", few.strip(3, 2, packed(3, 1), 0), BAD);
        GapPieces tall = with(1, 1, WHOLE, WHOLE, WHOLE, WHOLE, WHOLE);
        filled(tall, 5, packed(0, 1, 2, 3, 4), 25, 0, 500, 1000, 1500, 2000);
        filled(tall, 9, packed(4, 3, 2, 1, 0), 25, 0, 500, 1000, 1500, 2000);
        filled(tall, 10, packed(4, 3, 2, 1, 0), 15, 0, 5, 500, 505, 1000);
    }

    private static void badStrips(GapPieces g) {
        for (int w : new int[] {0, 13, -1, Integer.MIN_VALUE, Integer.MAX_VALUE}) {
            due("18: strip(" + w + ", 1, 1, 0)", g.strip(w, 1, 1, 0), BAD);
        }
        for (int n : new int[] {0, 6, -1, Integer.MIN_VALUE, Integer.MAX_VALUE, 11, 32}) {
            due("18: strip(5, " + n + ", 0, 0)", g.strip(5, n, 0, 0), BAD);
        }
        for (int what : new int[] {-1, 3, Integer.MIN_VALUE, Integer.MAX_VALUE}) {
            due("18: strip(5, 2, 8, " + what + ")", g.strip(5, 2, 8, what), BAD);
        }
        due("18: a piece twice", g.strip(5, 2, packed(1, 1), 0), BAD);
        due("18: a piece twice", g.strip(5, 3, packed(1, 0, 1), 0), BAD);
        due("18: other bits", g.strip(5, 1, 8 + 1, 0), BAD);
        due("18: other bits", g.strip(5, 2, packed(0, 1, 2), 0), BAD);
        due("18: other bits", g.strip(5, 5, packed(0, 1, 2, 3, 4) + (1 << 15), 0), BAD);
        due("18: other bits", g.strip(5, 1, Integer.MIN_VALUE, 0), BAD);
        due("18: other bits", g.strip(5, 5, -1, 0), BAD);
        due("18: as wide", g.strip(5, 1, 2, 0), 1);
        due("18: wider", g.strip(4, 1, 2, 0), BAD);
        due("18: the second is wider", g.strip(2, 2, packed(0, 5), 0), BAD);
        due("18: the last is wider", g.strip(4, 3, packed(0, 5, 2), 1), BAD);
    }

    private static void ordered(GapPieces g, int w, int set, int height, int... pieces) {
        due("19: best(" + w + ", " + set + ", 0)", g.best(w, set, 0), height);
        due("19: best(" + w + ", " + set + ", 1)", g.best(w, set, 1), packed(pieces));
        due("19: the strip", g.strip(w, pieces.length, packed(pieces), 0), height);
    }

    private static void best() {
        GapPieces g = with(1, 1, DOT, PAIR, BLOCK, BAR, CORNER, TOWER, DOT, WHOLE);
        ordered(g, 1, 1, 1, 0);
        ordered(g, 12, 128, 5, 7);
        ordered(g, 2, 1 + 4, 3, 0, 2);
        ordered(g, 2, 1 + 16, 2, 4, 0);
        ordered(g, 5, 8 + 1, 2, 0, 3);
        ordered(g, 3, 1 + 2, 1, 0, 1);
        ordered(g, 2, 1 + 2 + 64, 2, 0, 1, 6);
        ordered(g, 2, 2 + 16 + 64, 3, 1, 4, 6);
        ordered(g, 5, 2 + 4 + 8, 3, 1, 2, 3);
        ordered(g, 1, 1 + 32 + 64, 7, 0, 5, 6);
        ordered(g, 12, 1 + 2 + 4 + 16 + 64, 2, 0, 1, 2, 4, 6);
        laid(g, 0, 0, 0);
        ordered(g, 2, 1 + 4, 3, 0, 2);
        for (int w : new int[] {0, 13, -1, Integer.MIN_VALUE, Integer.MAX_VALUE}) {
            due("19: best(" + w + ", 1, 0)", g.best(w, 1, 0), BAD);
        }
        for (int set : new int[] {0, 63, 255, 256, 257, -1, Integer.MIN_VALUE, Integer.MAX_VALUE, 1 << 30, 1 + 2 + 4 + 16 + 64 + 128}) {
            due("19: best(12, " + set + ", 0)", g.best(12, set, 0), BAD);
            due("19: best(12, " + set + ", 1)", g.best(12, set, 1), BAD);
        }
        for (int what : new int[] {-1, 2, Integer.MIN_VALUE, Integer.MAX_VALUE}) {
            due("19: best(5, 3, " + what + ")", g.best(5, 3, what), BAD);
        }
        due("19: wider", g.best(4, 8 + 1, 0), BAD);
        due("19: as wide", g.best(5, 8, 0), 1);
        due("19: five at most", g.best(12, 31, 1), packed(0, 1, 2, 3, 4));
        GapPieces few = with(1, 1, DOT, PAIR, BLOCK);
        due("19: no such piece", few.best(5, 8, 0), BAD);
        due("19: one is none", few.best(5, 9, 0), BAD);
        due("19: all three", few.best(5, 7, 0), 2);
        GapPieces tall = with(1, 1, WHOLE, WHOLE, WHOLE, WHOLE, WHOLE);
        ordered(tall, 5, 31, 25, 0, 1, 2, 3, 4);
    }

    private static void count() {
        GapPieces g = with(7, 4, DOT, PAIR, POST);
        g.walls(0, 3);
        g.walls(3, 64 + 2 + 1);
        laid(g, 2, 3, 1);
        laid(g, 0, 12, 12);
        due("20: columns", g.count(0), 7);
        due("20: rows", g.count(1), 4);
        due("20: pieces", g.count(2), 3);
        due("20: lying, outside too", g.count(3), 2);
        due("20: walls", g.count(4), 5);
        g.walls(3, 0);
        g.away(0);
        due("20: lying", g.count(3), 1);
        due("20: walls", g.count(4), 2);
        for (int what : new int[] {-1, 5, Integer.MIN_VALUE, Integer.MAX_VALUE}) {
            due("20: count(" + what + ")", g.count(what), BAD);
        }
    }
}
