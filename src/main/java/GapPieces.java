/** Flat pieces of squares slid without turning among walls and one another; ../shared/DOC.md tells what each call answers. */
public final class GapPieces {
    public static final int BAD = -1, NO = -2, FULL = -3, NONE = -4;

    private static final int BAD_PUSH = -1000;
    private static final int UNPLACED = -100;

    private static final int RIGHT = 0, UP = 1, LEFT = 2, DOWN = 3;

    private static final int MOST_COLUMNS = 12;
    private static final int MOST_ROWS = 10;
    private static final int MOST_PIECES = 8;
    private static final int MOST_FILLED = 5;
    private static final int MOST_SLID = 20;
    private static final int MOST_PUSHED = 10;

    // A shape is a number of 25 bits: bit EDGE * r + c is its square in column c, row r.
    private static final int EDGE = 5;
    private static final int ROW_BITS = 31;
    private static final int FIRST_COLUMN = 1082401;
    private static final int ALL_SQUARES = 33554431;

    // Places go from LOWEST to HIGHEST along x and y, SPAN in all; squares of pieces reach EDGE - 1 further, SIDE in all.
    private static final int LOWEST = -6;
    private static final int HIGHEST = 13;
    private static final int SPAN = 20;
    private static final int SIDE = 24;
    private static final int SPAN_BITS = (1 << SPAN) - 1;

    // A spot in a strip is told as SPOT_ROW times y and x.
    private static final int SPOT_ROW = 100;
    private static final int STRIP_ROWS = MOST_FILLED * EDGE;

    private final Table table;
    private final Paths paths;
    private final Heap heap;
    private final Filler filler;

    public GapPieces() {
        table = new Table();
        paths = new Paths(table);
        heap = new Heap(table, paths);
        filler = new Filler(table);
    }

    public int board(int columns, int rows) {
        if (columns < 1 || columns > MOST_COLUMNS || rows < 1 || rows > MOST_ROWS) {
            return BAD;
        }
        table.renew(columns, rows);
        paths.forgetSteps();
        return columns * rows;
    }

    public int walls(int y, int bits) {
        if (!table.hasRow(y) || (bits & ~table.wholeRow()) != 0) {
            return BAD;
        }
        if (table.isLainOn(y, bits)) {
            return NO;
        }
        table.setWalls(y, bits);
        return bits;
    }

    public int piece(int shape) {
        if (shape < 1 || shape > ALL_SQUARES) {
            return BAD;
        }
        return table.addPiece(movedToCorner(shape));
    }

    public int about(int piece, int what) {
        if (!table.has(piece)) {
            return BAD;
        }
        int shape = table.shapeOf(piece);
        boolean lies = table.isLying(piece);
        switch (what) {
            case 0:
                return Integer.bitCount(shape);
            case 1:
                return columnsOf(shape);
            case 2:
                return rowsOf(shape);
            case 3:
                return lies ? table.xOf(piece) : UNPLACED;
            case 4:
                return lies ? table.yOf(piece) : UNPLACED;
            case 5:
                return lies ? 1 : 0;
            case 6:
                return shape;
            case 7:
                return lies && paths.isOutWhereItLies(piece) ? 1 : 0;
            default:
                return BAD;
        }
    }

    public int put(int piece, int x, int y) {
        if (!table.has(piece) || !isPlace(x, y)) {
            return BAD;
        }
        if (!paths.canStand(piece, x, y)) {
            return NO;
        }
        table.lay(piece, x, y);
        return 1;
    }

    public int away(int piece) {
        if (!table.has(piece)) {
            return BAD;
        }
        if (!table.isLying(piece)) {
            return 0;
        }
        table.take(piece);
        return 1;
    }

    public int stands(int piece, int x, int y) {
        if (!table.has(piece) || !isPlace(x, y)) {
            return BAD;
        }
        return paths.canStand(piece, x, y) ? 1 : 0;
    }

    public int slide(int piece, int direction, int n) {
        if (!table.has(piece) || !isDirection(direction) || n < 1 || n > MOST_SLID) {
            return BAD;
        }
        if (!table.isLying(piece)) {
            return NO;
        }
        int made = paths.stepsOnward(piece, direction, n);
        table.lay(piece, table.xOf(piece) + made * stepX(direction), table.yOf(piece) + made * stepY(direction));
        return made;
    }

    public int way(int piece, int x, int y) {
        if (!table.has(piece) || !isPlace(x, y)) {
            return BAD;
        }
        if (!table.isLying(piece)) {
            return NO;
        }
        return paths.findWay(piece, x, y);
    }

    public int stepOf(int i) {
        return i < 0 ? BAD : paths.stepAt(i);
    }

    public int out(int piece) {
        if (!table.has(piece)) {
            return BAD;
        }
        if (!table.isLying(piece)) {
            return NO;
        }
        return paths.stepsOut(piece, table.lyingBeside(piece));
    }

    public int places(int piece, int what) {
        if (!table.has(piece) || what < 0 || what > 1) {
            return BAD;
        }
        return what == 0 ? paths.countInside(piece) : paths.countRooms(piece);
    }

    public int blocks(int piece, int direction) {
        if (!table.has(piece) || !isDirection(direction)) {
            return BAD;
        }
        if (!table.isLying(piece)) {
            return NO;
        }
        return table.blockersOf(piece, direction);
    }

    public int order(int direction, int i) {
        if (!isDirection(direction) || i < -1) {
            return BAD;
        }
        heap.clearOff(direction);
        return heap.told(i);
    }

    public int apart(int i) {
        if (i < -1) {
            return BAD;
        }
        heap.clearOff(Heap.BY_WAY);
        return heap.told(i);
    }

    public int push(int a, int b, int what) {
        if (!table.has(a) || !table.has(b) || a == b || what < 0 || what > 1) {
            return BAD_PUSH;
        }
        return leastPush(table.shapeOf(a), table.shapeOf(b), what);
    }

    public int strip(int w, int n, int order, int what) {
        if (n < 1 || n > MOST_FILLED || (order >>> 3 * n) != 0 || what < 0 || what > n) {
            return BAD;
        }
        int set = setOf(n, order);
        if (Integer.bitCount(set) != n || !filler.fits(w, set)) {
            return BAD;
        }
        int height = filler.fill(w, n, order);
        return what == 0 ? height : filler.spotAt(what - 1);
    }

    public int best(int w, int set, int what) {
        if (set < 1 || Integer.bitCount(set) > MOST_FILLED || what < 0 || what > 1) {
            return BAD;
        }
        if (!filler.fits(w, set)) {
            return BAD;
        }
        filler.findBest(w, set);
        return what == 0 ? filler.bestHeight() : filler.bestOrder();
    }

    public int count(int what) {
        switch (what) {
            case 0:
                return table.columnCount();
            case 1:
                return table.rowCount();
            case 2:
                return table.pieceCount();
            case 3:
                return Integer.bitCount(table.lyingSet());
            case 4:
                return table.wallCount();
            default:
                return BAD;
        }
    }

    private static boolean isPlace(int x, int y) {
        return x >= LOWEST && x <= HIGHEST && y >= LOWEST && y <= HIGHEST;
    }

    private static boolean isDirection(int direction) {
        return direction >= RIGHT && direction <= DOWN;
    }

    private static int stepX(int direction) {
        return direction == RIGHT ? 1 : direction == LEFT ? -1 : 0;
    }

    private static int stepY(int direction) {
        return direction == UP ? 1 : direction == DOWN ? -1 : 0;
    }

    private static boolean isIn(int set, int piece) {
        return (set >> piece & 1) == 1;
    }

    private static int movedToCorner(int shape) {
        int moved = shape;
        for (int i = 1; i < EDGE && (moved & ROW_BITS) == 0; i++) {
            moved >>= EDGE;
        }
        for (int i = 1; i < EDGE && (moved & FIRST_COLUMN) == 0; i++) {
            moved >>= 1;
        }
        return moved;
    }

    private static int rowOf(int shape, int r) {
        return r < 0 || r >= EDGE ? 0 : shape >> EDGE * r & ROW_BITS;
    }

    private static int columnsOf(int shape) {
        int columns = 0;
        for (int c = 0; c < EDGE; c++) {
            if ((shape >> c & FIRST_COLUMN) != 0) {
                columns = c + 1;
            }
        }
        return columns;
    }

    private static int rowsOf(int shape) {
        int rows = 0;
        for (int r = 0; r < EDGE; r++) {
            if (rowOf(shape, r) != 0) {
                rows = r + 1;
            }
        }
        return rows;
    }

    private static int leastPush(int a, int b, int what) {
        int least = 2 * MOST_PUSHED + 1;
        int answer = 0;
        for (int dx = -MOST_PUSHED; dx <= MOST_PUSHED; dx++) {
            for (int dy = -MOST_PUSHED; dy <= MOST_PUSHED; dy++) {
                int size = Math.abs(dx) + Math.abs(dy);
                if (size < least && !meet(a, b, dx, dy)) {
                    least = size;
                    answer = what == 0 ? dx : dy;
                }
            }
        }
        return answer;
    }

    private static boolean meet(int a, int b, int dx, int dy) {
        for (int r = 0; r < EDGE; r++) {
            int row = rowOf(a, r);
            int moved = dx < 0 ? row >> -dx : row << dx;
            if ((moved & rowOf(b, r + dy)) != 0) {
                return true;
            }
        }
        return false;
    }

    private static int pieceInOrder(int order, int k) {
        return order >> 3 * k & 7;
    }

    private static int setOf(int n, int order) {
        int set = 0;
        for (int k = 0; k < n; k++) {
            set |= 1 << pieceInOrder(order, k);
        }
        return set;
    }

    /** The board, its walls and the pieces; a row of squares is told as bits, bit x - LOWEST for the square at x. */
    private static final class Table {
        private final int[] wallRows = new int[MOST_ROWS];
        private final int[] shapes = new int[MOST_PIECES];
        private final int[] xs = new int[MOST_PIECES];
        private final int[] ys = new int[MOST_PIECES];
        private int columns = 1;
        private int rows = 1;
        private int pieces = 0;
        private int lying = 0;

        void renew(int newColumns, int newRows) {
            columns = newColumns;
            rows = newRows;
            lying = 0;
            for (int y = 0; y < wallRows.length; y++) {
                wallRows[y] = 0;
            }
        }

        int columnCount() {
            return columns;
        }

        int rowCount() {
            return rows;
        }

        int pieceCount() {
            return pieces;
        }

        int lyingSet() {
            return lying;
        }

        int wallCount() {
            int found = 0;
            for (int y = 0; y < wallRows.length; y++) {
                found += Integer.bitCount(wallRows[y]);
            }
            return found;
        }

        boolean hasRow(int y) {
            return y >= 0 && y < rows && y < wallRows.length;
        }

        int wholeRow() {
            return (1 << columns) - 1;
        }

        void setWalls(int y, int bits) {
            if (hasRow(y)) {
                wallRows[y] = bits;
            }
        }

        int addPiece(int shape) {
            if (pieces >= shapes.length) {
                return FULL;
            }
            shapes[pieces] = shape;
            return pieces++;
        }

        boolean has(int piece) {
            return piece >= 0 && piece < pieces && piece < shapes.length;
        }

        boolean isLying(int piece) {
            return has(piece) && isIn(lying, piece);
        }

        int lyingBeside(int piece) {
            return has(piece) ? lying & ~(1 << piece) : lying;
        }

        int shapeOf(int piece) {
            return has(piece) ? shapes[piece] : 0;
        }

        int xOf(int piece) {
            return has(piece) ? xs[piece] : 0;
        }

        int yOf(int piece) {
            return has(piece) ? ys[piece] : 0;
        }

        void lay(int piece, int x, int y) {
            if (has(piece)) {
                xs[piece] = x;
                ys[piece] = y;
                lying |= 1 << piece;
            }
        }

        void take(int piece) {
            if (has(piece)) {
                lying &= ~(1 << piece);
            }
        }

        int boardSquares(int y) {
            return hasRow(y) ? wholeRow() << -LOWEST : 0;
        }

        int wallSquares(int y) {
            return hasRow(y) ? wallRows[y] << -LOWEST : 0;
        }

        int squaresOf(int piece, int y) {
            if (piece < 0 || piece >= MOST_PIECES || (lying >> piece & 1) == 0) {
                return 0;
            }
            return rowOf(shapes[piece], y - ys[piece]) << xs[piece] - LOWEST;
        }

        int squaresOfSet(int set, int y) {
            int squares = 0;
            for (int p = 0; p < pieces; p++) {
                if (isIn(set, p)) {
                    squares |= squaresOf(p, y);
                }
            }
            return squares;
        }

        boolean isLainOn(int y, int bits) {
            return (squaresOfSet(lying, y) & bits << -LOWEST) != 0;
        }

        int blockersOf(int piece, int direction) {
            int blockers = 0;
            int swept = 0;
            for (int i = 0; i < SIDE; i++) {
                // A piece that goes up or down comes from the rows looked at before: they are looked at in its direction.
                int y = direction == DOWN ? LOWEST + SIDE - 1 - i : LOWEST + i;
                int squares = squaresOf(piece, y);
                swept = stepX(direction) == 0 ? swept | squares : sweptAlong(squares, direction);
                blockers |= piecesOn(swept, y);
            }
            return blockers & lyingBeside(piece);
        }

        private static int sweptAlong(int squares, int direction) {
            int swept = squares;
            for (int i = 1; i < SIDE; i++) {
                swept |= direction == RIGHT ? swept << 1 : swept >>> 1;
            }
            return swept;
        }

        private int piecesOn(int squares, int y) {
            int found = 0;
            for (int p = 0; p < pieces; p++) {
                if ((squaresOf(p, y) & squares) != 0) {
                    found |= 1 << p;
                }
            }
            return found;
        }
    }

    /** Where one piece can stand and go among walls and others; a place is told as SPAN times (y - LOWEST) and x - LOWEST. */
    private static final class Paths {
        private static final int PLACES = SPAN * SPAN;

        private final Table table;
        private final int[] taken = new int[SIDE];
        // Bit x - LOWEST of row y - LOWEST: the piece can stand there; it is out there.
        private final int[] open = new int[SPAN];
        private final int[] outside = new int[SPAN];
        private final int[] distances = new int[PLACES];
        private final int[] queue = new int[PLACES];
        private int queued = 0;
        private final int[] steps = new int[PLACES];
        private int stepCount = 0;

        Paths(Table table) {
            this.table = table;
        }

        void forgetSteps() {
            stepCount = 0;
        }

        int stepAt(int i) {
            return i >= 0 && i < stepCount && i < steps.length ? steps[i] : NONE;
        }

        boolean canStand(int piece, int x, int y) {
            survey(piece, table.lyingBeside(piece));
            return isMarked(open, placeAt(x, y));
        }

        boolean isOutWhereItLies(int piece) {
            survey(piece, table.lyingBeside(piece));
            return isMarked(outside, whereLies(piece));
        }

        int stepsOnward(int piece, int direction, int most) {
            survey(piece, table.lyingBeside(piece));
            int place = whereLies(piece);
            for (int made = 0; made < most; made++) {
                place = beside(place, direction);
                if (!isMarked(open, place)) {
                    return made;
                }
            }
            return most;
        }

        /** The fewest steps to where the piece is out, among walls and the others of a set, or NONE. */
        int stepsOut(int piece, int others) {
            survey(piece, others);
            reach(whereLies(piece), 0);
            spreadFrom(0);
            // The queue holds the places in the order of their distances.
            for (int i = 0; i < queued && i < queue.length; i++) {
                if (isMarked(outside, queue[i])) {
                    return distanceOf(queue[i]);
                }
            }
            return NONE;
        }

        /** The length of the way, whose steps are kept, or NONE, and the steps told before are kept. */
        int findWay(int piece, int x, int y) {
            survey(piece, table.lyingBeside(piece));
            reach(placeAt(x, y), 0);
            spreadFrom(0);
            int place = whereLies(piece);
            int length = distanceOf(place);
            if (length < 0) {
                return NONE;
            }
            keepSteps(place, length);
            return length;
        }

        int countInside(int piece) {
            survey(piece, table.lyingBeside(piece));
            int shape = table.shapeOf(piece);
            int columns = table.columnCount() - columnsOf(shape) + 1;
            int rows = table.rowCount() - rowsOf(shape) + 1;
            int found = 0;
            for (int y = 0; y < rows; y++) {
                for (int x = 0; x < columns; x++) {
                    found += isMarked(open, placeAt(x, y)) ? 1 : 0;
                }
            }
            return found;
        }

        int countRooms(int piece) {
            survey(piece, table.lyingBeside(piece));
            for (int place = 0; place < PLACES; place++) {
                if (isMarked(outside, place)) {
                    reach(place, 0);
                }
            }
            spreadFrom(0);
            int rooms = 0;
            for (int place = 0; place < PLACES; place++) {
                int before = queued;
                reach(place, 0);
                if (queued > before) {
                    rooms++;
                    spreadFrom(before);
                }
            }
            return rooms;
        }

        private void keepSteps(int from, int length) {
            int place = from;
            stepCount = length;
            for (int i = 0; i < length && i < steps.length; i++) {
                int direction = directionTo(place, length - i - 1);
                steps[i] = direction;
                place = beside(place, direction);
            }
        }

        /** The lesser direction in which a place of that distance lies beside one. */
        private int directionTo(int place, int distance) {
            for (int direction = RIGHT; direction < DOWN; direction++) {
                if (distanceOf(beside(place, direction)) == distance) {
                    return direction;
                }
            }
            return DOWN;
        }

        private void survey(int piece, int others) {
            int shape = table.shapeOf(piece);
            for (int i = 0; i < taken.length; i++) {
                taken[i] = table.wallSquares(i + LOWEST) | table.squaresOfSet(others, i + LOWEST);
            }
            markClear(shape, open);
            for (int i = 0; i < taken.length; i++) {
                taken[i] = table.boardSquares(i + LOWEST);
            }
            markClear(shape, outside);
            queued = 0;
            for (int place = 0; place < distances.length; place++) {
                distances[place] = NONE;
            }
        }

        /** Marks the places at which no square of the shape is on one that is taken. */
        private void markClear(int shape, int[] marks) {
            for (int y = 0; y < marks.length; y++) {
                int hit = 0;
                for (int r = 0; r < EDGE && y + r < taken.length; r++) {
                    hit |= hitPlaces(rowOf(shape, r), taken[y + r]);
                }
                marks[y] = ~hit & SPAN_BITS;
            }
        }

        private static int hitPlaces(int shapeRow, int squares) {
            int hit = 0;
            for (int c = 0; c < EDGE; c++) {
                if ((shapeRow >> c & 1) == 1) {
                    hit |= squares >> c;
                }
            }
            return hit;
        }

        private void spreadFrom(int first) {
            for (int i = first; i < queued && i < queue.length; i++) {
                int place = queue[i];
                int next = distanceOf(place) + 1;
                for (int direction = RIGHT; direction <= DOWN; direction++) {
                    reach(beside(place, direction), next);
                }
            }
        }

        private void reach(int place, int distance) {
            if (isMarked(open, place) && distanceOf(place) < 0 && place < distances.length && queued < queue.length) {
                distances[place] = distance;
                queue[queued] = place;
                queued++;
            }
        }

        private int distanceOf(int place) {
            return place < 0 || place >= distances.length ? NONE : distances[place];
        }

        private static boolean isMarked(int[] marks, int place) {
            if (place < 0 || place / SPAN >= marks.length) {
                return false;
            }
            return (marks[place / SPAN] >> place % SPAN & 1) == 1;
        }

        private int whereLies(int piece) {
            return placeAt(table.xOf(piece), table.yOf(piece));
        }

        private static int placeAt(int x, int y) {
            return isPlace(x, y) ? SPAN * (y - LOWEST) + x - LOWEST : NONE;
        }

        private static int beside(int place, int direction) {
            int column = place % SPAN + stepX(direction);
            int row = place / SPAN + stepY(direction);
            if (place < 0 || column < 0 || column >= SPAN || row < 0 || row >= SPAN) {
                return NONE;
            }
            return SPAN * row + column;
        }
    }

    /** In what order the pieces that lie go off, and which are left. */
    private static final class Heap {
        private static final int BY_WAY = -1;

        private final Table table;
        private final Paths paths;
        private final int[] gone = new int[MOST_PIECES];
        private int goneCount = 0;
        private int left = 0;

        Heap(Table table, Paths paths) {
            this.table = table;
            this.paths = paths;
        }

        /** Lets the pieces go in a direction, or BY_WAY. */
        void clearOff(int how) {
            left = table.lyingSet();
            goneCount = 0;
            for (int i = 0; i < gone.length; i++) {
                int piece = lowestToGo(how);
                if (piece < 0) {
                    return;
                }
                gone[i] = piece;
                goneCount++;
                left &= ~(1 << piece);
            }
        }

        int told(int i) {
            if (i < 0) {
                return left;
            }
            return i < goneCount && i < gone.length ? gone[i] : NONE;
        }

        private int lowestToGo(int how) {
            for (int p = 0; p < MOST_PIECES; p++) {
                if (!isIn(left, p)) {
                    continue;
                }
                int others = left & ~(1 << p);
                boolean goes = how == BY_WAY ? paths.stepsOut(p, others) >= 0 : (table.blockersOf(p, how) & others) == 0;
                if (goes) {
                    return p;
                }
            }
            return NONE;
        }
    }

    /** A strip filled with pieces from the bottom; bit x of a row is its square in column x. */
    private static final class Filler {
        private final Table table;
        private final int[] filled = new int[STRIP_ROWS];
        private final int[] spots = new int[MOST_FILLED];
        private int width = 1;
        private int leastHeight = 0;
        private int leastOrder = 0;

        Filler(Table table) {
            this.table = table;
        }

        /** Whether all of a set are pieces, none of them wider than a strip of that width, and there is such a strip. */
        boolean fits(int w, int set) {
            if (w < 1 || w > MOST_COLUMNS || set >> table.pieceCount() != 0) {
                return false;
            }
            for (int p = 0; p < MOST_PIECES; p++) {
                if (isIn(set, p) && columnsOf(table.shapeOf(p)) > w) {
                    return false;
                }
            }
            return true;
        }

        int fill(int w, int n, int order) {
            empty(w);
            int height = 0;
            for (int k = 0; k < n && k < spots.length; k++) {
                int shape = table.shapeOf(pieceInOrder(order, k));
                spots[k] = spotFor(shape);
                toggle(shape, spots[k]);
                height = Math.max(height, spots[k] / SPOT_ROW + rowsOf(shape));
            }
            return height;
        }

        int spotAt(int k) {
            return k < 0 || k >= spots.length ? NONE : spots[k];
        }

        void findBest(int w, int set) {
            empty(w);
            leastHeight = STRIP_ROWS + 1;
            leastOrder = 0;
            search(this, set, 0, 0, 0);
        }

        int bestHeight() {
            return leastHeight;
        }

        int bestOrder() {
            return leastOrder;
        }

        /** Tries those left in every order, the lower ones first, so that of several best orders the first found stays. */
        private static void search(Filler filler, int left, int depth, int order, int height) {
            if (height >= filler.leastHeight || depth > MOST_FILLED) {
                return;
            }
            if (left == 0) {
                filler.leastHeight = height;
                filler.leastOrder = order;
                return;
            }
            for (int p = 0; p < MOST_PIECES; p++) {
                if (isIn(left, p)) {
                    int shape = filler.table.shapeOf(p);
                    int spot = filler.spotFor(shape);
                    int reached = Math.max(height, spot / SPOT_ROW + rowsOf(shape));
                    filler.toggle(shape, spot);
                    search(filler, left & ~(1 << p), depth + 1, order | p << 3 * depth, reached);
                    filler.toggle(shape, spot);
                }
            }
        }

        private void empty(int w) {
            width = w;
            for (int y = 0; y < filled.length; y++) {
                filled[y] = 0;
            }
        }

        private int spotFor(int shape) {
            int columns = width - columnsOf(shape) + 1;
            for (int y = 0; y < STRIP_ROWS; y++) {
                for (int x = 0; x < columns; x++) {
                    if (isClear(shape, x, y)) {
                        return SPOT_ROW * y + x;
                    }
                }
            }
            return 0;
        }

        private boolean isClear(int shape, int x, int y) {
            for (int r = 0; r < EDGE && y + r < filled.length; r++) {
                if ((rowOf(shape, r) << x & filled[y + r]) != 0) {
                    return false;
                }
            }
            return true;
        }

        private void toggle(int shape, int spot) {
            int x = spot % SPOT_ROW;
            int y = spot / SPOT_ROW;
            for (int r = 0; r < EDGE && y + r >= 0 && y + r < filled.length; r++) {
                filled[y + r] ^= rowOf(shape, r) << x;
            }
        }
    }
}
