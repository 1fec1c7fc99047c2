import java.util.ArrayList;
import java.util.List;
import java.util.Map;
import java.util.Set;

/**
 * A run of calls of its own for each sentence of the document that names a boundary case, on a new object each:
 * the value on the boundary, the one beside it, what is refused, and which of several refusals is told.
 * Of every refused call, and of every call that only asks, it is looked at too that nothing changes by it.
 */
public final class BoundaryTests {
    private static final int MOST_CALLS = 512;
    private static final int MOST_STEPS_WATCHED = 45;
    // stateAfter asks so many calls at most: counts, steps, of 8 pieces 8 things each, 8 put away, one more piece, 120 squares.
    private static final int WATCHING_CALLS = 5 + MOST_STEPS_WATCHED + 64 + 8 + 1 + 120;

    private static final Map<String, Integer> NUMBERS = Map.ofEntries(
        Map.entry("BAD", -1), Map.entry("NO", -2), Map.entry("FULL", -3), Map.entry("NONE", -4),
        Map.entry("MIN", Integer.MIN_VALUE), Map.entry("MAX", Integer.MAX_VALUE),
        Map.entry("DOT", 1), Map.entry("PAIR", 3), Map.entry("TRIO", 7), Map.entry("BAR", 31),
        Map.entry("POST", 33), Map.entry("TOWER", 1082401), Map.entry("BLOCK", 99), Map.entry("CORNER", 35),
        // 3 by 3 with a hole in its middle; the same open below, and above.
        Map.entry("RING", 7335), Map.entry("CUP", 7333), Map.entry("BOWL", 5287),
        // Two squares: columns 0 and 4 of a row; column 0, row 0 and column 4, row 4; column 1, row 0 and column 0, row 1.
        Map.entry("ENDS", 17), Map.entry("FAR", 16777217), Map.entry("SLANT", 34),
        Map.entry("WHOLE", 33554431));

    private static final Set<String> ASKING = Set.of("about", "stands", "stepOf", "out", "places", "blocks", "order",
        "apart", "push", "strip", "best", "count");

    private static int sentences = 0;
    private static int answers = 0;
    private static int wrong = 0;

    private record Call(String text, String name, int[] args, int want) {
        boolean isRefused() {
            return name.equals("push") ? want == -1000 : want >= -3 && want <= -1;
        }
    }

    public static void main(String[] args) {
        boardSizes();
        squares();
        pieceNumbers();
        shapes();
        lying();
        standing();
        outOfTheBoard();
        steps();
        ways();
        longWays();
        rooms();
        blocking();
        orders();
        takenApart();
        pushes();
        strips();
        refusedStrips();
        bestOrders();
        refusedBestOrders();
        newObject();
        board();
        walls();
        piece();
        about();
        put();
        away();
        stands();
        slide();
        way();
        stepOf();
        out();
        places();
        blocks();
        order();
        apart();
        push();
        count();
        asksOnly();
        lastCall();
        System.out.println("BoundaryTests: " + sentences + " sentences, " + answers + " answers, " + wrong + " wrong");
        if (wrong != 0) {
            System.exit(1);
        }
    }

    /** Asks the calls of a text, "call = answer" parted by ; or by lines, of a new object. */
    private static void holds(String sentence, String text) {
        sentences++;
        List<Call> calls = new ArrayList<>();
        for (String part : text.split("[;\n]")) {
            if (!part.isBlank()) {
                calls.add(read(part.strip()));
            }
        }
        if (calls.size() > MOST_CALLS - WATCHING_CALLS) {
            throw new IllegalStateException("too long a run: " + sentence);
        }
        GapPieces g = new GapPieces();
        for (int i = 0; i < calls.size(); i++) {
            Call call = calls.get(i);
            answers++;
            int got = ask(g, call);
            if (got != call.want) {
                wrong++;
                System.out.println(sentence + ": " + call.text + ", but it answered " + got + " (call " + i + ")");
            }
            boolean asks = ASKING.contains(call.name) || call.isRefused();
            boolean steps = call.name.equals("way") && call.want >= 0;
            if (asks || call.name.equals("way")) {
                unchanged(sentence, calls, i, !steps);
            }
        }
    }

    private static void unchanged(String sentence, List<Call> calls, int i, boolean stepsToo) {
        List<Integer> before = stateAfter(calls.subList(0, i), stepsToo);
        List<Integer> after = stateAfter(calls.subList(0, i + 1), stepsToo);
        if (!before.equals(after)) {
            wrong++;
            System.out.println(sentence + ": " + calls.get(i).text + " changed something (call " + i + ")");
        }
    }

    /** All that can be told of a new object after these calls. */
    private static List<Integer> stateAfter(List<Call> calls, boolean stepsToo) {
        GapPieces g = new GapPieces();
        for (Call call : calls) {
            ask(g, call);
        }
        List<Integer> state = new ArrayList<>();
        for (int what = 0; what < 5; what++) {
            state.add(g.count(what));
        }
        for (int i = 0; i < MOST_STEPS_WATCHED && stepsToo; i++) {
            state.add(g.stepOf(i));
        }
        int pieces = g.count(2);
        for (int p = 0; p < pieces; p++) {
            for (int what = 0; what < 8; what++) {
                state.add(g.about(p, what));
            }
        }
        for (int p = 0; p < pieces; p++) {
            g.away(p);
        }
        // The walls are told by where a piece can stand: a single square, or the first piece if there are eight.
        int probe = Math.max(0, g.piece(1));
        for (int y = 0; y < 10; y++) {
            for (int x = 0; x < 12; x++) {
                state.add(g.stands(probe, x, y));
            }
        }
        return state;
    }

    private static Call read(String text) {
        int open = text.indexOf('(');
        int close = text.indexOf(')');
        String inside = text.substring(open + 1, close);
        String[] parts = inside.split(",");
        int[] args = new int[parts.length];
        for (int i = 0; i < parts.length; i++) {
            args[i] = number(parts[i]);
        }
        int equals = text.indexOf('=');
        return new Call(text, text.substring(0, open), args, number(text.substring(equals + 1)));
    }

    private static int number(String text) {
        String word = text.strip();
        return NUMBERS.containsKey(word) ? NUMBERS.get(word) : Integer.parseInt(word);
    }

    private static int ask(GapPieces g, Call call) {
        int[] a = call.args;
        switch (call.name) {
            case "board": return g.board(a[0], a[1]);
            case "walls": return g.walls(a[0], a[1]);
            case "piece": return g.piece(a[0]);
            case "about": return g.about(a[0], a[1]);
            case "put": return g.put(a[0], a[1], a[2]);
            case "away": return g.away(a[0]);
            case "stands": return g.stands(a[0], a[1], a[2]);
            case "slide": return g.slide(a[0], a[1], a[2]);
            case "way": return g.way(a[0], a[1], a[2]);
            case "stepOf": return g.stepOf(a[0]);
            case "out": return g.out(a[0]);
            case "places": return g.places(a[0], a[1]);
            case "blocks": return g.blocks(a[0], a[1]);
            case "order": return g.order(a[0], a[1]);
            case "apart": return g.apart(a[0]);
            case "push": return g.push(a[0], a[1], a[2]);
            case "strip": return g.strip(a[0], a[1], a[2], a[3]);
            case "best": return g.best(a[0], a[1], a[2]);
            case "count": return g.count(a[0]);
            default: throw new IllegalArgumentException(call.text);
        }
    }

    // The board and its squares.

    private static void boardSizes() {
        for (int columns = 1; columns <= 12; columns++) {
            for (int rows = 1; rows <= 10; rows++) {
                holds("2: 1 to 12 columns, 1 to 10 rows", "board(" + columns + ", " + rows + ") = " + columns * rows
                    + "; count(0) = " + columns + "; count(1) = " + rows + "; walls(" + (rows - 1) + ", 0) = 0; walls("
                    + rows + ", 0) = BAD; walls(0, " + ((1 << columns) - 1) + ") = " + ((1 << columns) - 1)
                    + "; walls(0, " + (1 << columns) + ") = BAD; count(4) = " + columns);
            }
        }
        holds("2: no column", "board(0, 1) = BAD; count(0) = 1; count(1) = 1");
        holds("2: the thirteenth column", "board(13, 1) = BAD; count(0) = 1");
        holds("2: no row", "board(1, 0) = BAD; count(1) = 1");
        holds("2: the eleventh row", "board(1, 11) = BAD; count(1) = 1");
        holds("2: far numbers", """
            board(-1, 1) = BAD; board(1, -1) = BAD; board(-1, -1) = BAD; board(0, 0) = BAD; board(13, 11) = BAD
            board(MIN, 1) = BAD; board(MAX, 1) = BAD; board(1, MIN) = BAD; board(1, MAX) = BAD; board(65536, 65536) = BAD
            """);
    }

    private static void squares() {
        holds("1: a new board's squares are free", """
            board(12, 10) = 120; count(4) = 0; piece(DOT) = 0; places(0, 0) = 120
            """);
        holds("3: bit x, from the first column and row to the last", """
            board(12, 10) = 120; piece(DOT) = 0
            walls(0, 1) = 1; stands(0, 0, 0) = 0; stands(0, 1, 0) = 1; stands(0, 0, 1) = 1
            walls(9, 2048) = 2048; stands(0, 11, 9) = 0; stands(0, 10, 9) = 1; stands(0, 11, 8) = 1; count(4) = 2
            """);
        holds("3: all of a row, none of a row", """
            board(12, 10) = 120; walls(5, 4095) = 4095; count(4) = 12; walls(5, 0) = 0; count(4) = 0
            """);
        holds("3: others are free", """
            board(3, 1) = 3; piece(DOT) = 0; walls(0, 5) = 5; walls(0, 2) = 2
            stands(0, 0, 0) = 1; stands(0, 1, 0) = 0; stands(0, 2, 0) = 1; count(4) = 1
            """);
        holds("What lies around the board is free", """
            board(1, 1) = 1; walls(0, 1) = 1; piece(DOT) = 0; stands(0, 0, 0) = 0
            stands(0, 1, 0) = 1; stands(0, -1, 0) = 1; stands(0, 0, 1) = 1; stands(0, 0, -1) = 1
            stands(0, -6, -6) = 1; stands(0, 13, -6) = 1; stands(0, -6, 13) = 1; stands(0, 13, 13) = 1
            """);
        holds("What lies around is free where a greater board had walls", """
            board(12, 10) = 120; piece(DOT) = 0; walls(0, 4095) = 4095; walls(9, 4095) = 4095; board(1, 1) = 1
            stands(0, 0, 0) = 1; stands(0, 11, 0) = 1; stands(0, 0, 9) = 1; stands(0, 11, 9) = 1; count(4) = 0
            """);
    }

    // Pieces.

    private static final String EIGHT = """
        piece(DOT) = 0; piece(PAIR) = 1; piece(POST) = 2; piece(CORNER) = 3
        piece(BLOCK) = 4; piece(BAR) = 5; piece(TOWER) = 6; piece(RING) = 7
        """;

    private static void pieceNumbers() {
        holds("Pieces 0 to 7, as they come", EIGHT + """
            count(2) = 8; about(0, 6) = DOT; about(1, 6) = PAIR; about(2, 6) = POST; about(3, 6) = CORNER
            about(4, 6) = BLOCK; about(5, 6) = BAR; about(6, 6) = TOWER; about(7, 6) = RING
            """);
        holds("The eighth piece is used as any other", EIGHT + """
            board(12, 10) = 120; about(7, 0) = 8; put(7, 0, 0) = 1; stands(7, 9, 7) = 1; slide(7, 0, 20) = 13; way(7, 0, 0) = 13
            out(7) = 0; places(7, 0) = 80; places(7, 1) = 0; blocks(7, 2) = 0; order(2, 0) = 7; apart(0) = 7
            push(7, 0, 0) = 0; push(7, 0, 1) = 1; push(0, 7, 0) = -1; strip(3, 1, 7, 0) = 3; best(3, 128, 1) = 7; away(7) = 1
            """);
        holds("The ninth piece is none", EIGHT + """
            piece(DOT) = FULL; count(2) = 8; about(8, 0) = BAD; put(8, 0, 0) = BAD; away(8) = BAD; stands(8, 0, 0) = BAD
            slide(8, 0, 1) = BAD; way(8, 0, 0) = BAD; out(8) = BAD; places(8, 0) = BAD; blocks(8, 0) = BAD
            push(8, 0, 0) = -1000; push(0, 8, 0) = -1000; best(12, 256, 0) = BAD
            """);
        for (String p : new String[] {"-1", "0", "7", "8", "MIN", "MAX"}) {
            holds("There is no such piece while there are none", refusedPiece(p));
        }
        for (String p : new String[] {"-1", "2", "7", "8", "31", "32", "33", "-32", "MIN", "MAX"}) {
            holds("There is no such piece beside two", "board(4, 4) = 16; piece(DOT) = 0; piece(POST) = 1; put(0, 1, 1) = 1; way(0, 2, 2) = 2;"
                + refusedPiece(p));
        }
    }

    private static String refusedPiece(String p) {
        StringBuilder text = new StringBuilder();
        for (int what = 0; what < 8; what++) {
            text.append("about(" + p + ", " + what + ") = BAD;");
        }
        for (int d = 0; d < 4; d++) {
            text.append("slide(" + p + ", " + d + ", 1) = BAD; blocks(" + p + ", " + d + ") = BAD;");
        }
        text.append("put(" + p + ", 0, 0) = BAD; away(" + p + ") = BAD; stands(" + p + ", 0, 0) = BAD; way(" + p + ", 0, 0) = BAD;");
        text.append("out(" + p + ") = BAD; places(" + p + ", 0) = BAD; places(" + p + ", 1) = BAD;");
        text.append("push(" + p + ", 0, 0) = -1000; push(0, " + p + ", 1) = -1000; push(" + p + ", " + p + ", 0) = -1000");
        return text.toString();
    }

    private static void shapes() {
        for (int bit = 1; bit < 25; bit++) {
            int c = bit % 5;
            int r = bit / 5;
            int shape = 1 + (1 << bit);
            int others = (r == 0 ? 30 : 31) & ~(1 << c);
            holds("Bit 5 r + c: column c, row r", "board(5, 5) = 25; piece(" + shape + ") = 0; about(0, 0) = 2; about(0, 1) = " + (c + 1)
                + "; about(0, 2) = " + (r + 1) + "; about(0, 6) = " + shape + "; walls(" + r + ", " + (1 << c) + ") = " + (1 << c)
                + "; stands(0, 0, 0) = 0; walls(" + r + ", " + others + ") = " + others + "; stands(0, 0, 0) = 1");
        }
        for (int bit = 0; bit < 25; bit++) {
            holds("It is slid to column 0 and row 0, from any square", "piece(" + (1 << bit)
                + ") = 0; about(0, 0) = 1; about(0, 1) = 1; about(0, 2) = 1; about(0, 6) = DOT");
        }
        holds("It is slid left alone", "piece(528) = 0; about(0, 6) = POST; about(0, 1) = 1; about(0, 2) = 2");
        holds("It is slid down alone", "piece(3145728) = 0; about(0, 6) = PAIR; about(0, 1) = 2; about(0, 2) = 1");
        holds("It is slid by one, both ways", "piece(6336) = 0; about(0, 6) = BLOCK");
        holds("A square in column 0 and another in row 0 are enough", "piece(1048592) = 0; about(0, 6) = 1048592; about(0, 1) = 5; about(0, 2) = 5");
        holds("All 25 squares stay", "piece(WHOLE) = 0; about(0, 6) = WHOLE; about(0, 0) = 25; about(0, 1) = 5; about(0, 2) = 5");
        holds("Its squares need not hang together", """
            board(5, 5) = 25; piece(ENDS) = 0; about(0, 0) = 2; about(0, 1) = 5; piece(TRIO) = 1
            put(0, 0, 0) = 1; put(1, 1, 0) = 1; stands(1, 0, 0) = 0; stands(1, 2, 0) = 0
            piece(FAR) = 2; about(2, 0) = 2; put(2, 0, 0) = NO; put(2, 1, 0) = NO; put(2, -1, 0) = 1; about(2, 6) = FAR
            """);
    }

    private static void lying() {
        holds("x, y are -6 to 13", """
            piece(DOT) = 0; put(0, -6, 0) = 1; about(0, 3) = -6; put(0, 13, 0) = 1; about(0, 3) = 13
            put(0, 0, -6) = 1; about(0, 4) = -6; put(0, 0, 13) = 1; about(0, 4) = 13
            put(0, -6, -6) = 1; put(0, 13, -6) = 1; put(0, -6, 13) = 1; put(0, 13, 13) = 1
            """);
        holds("Column 0, row 0 of the largest piece lies at the last place", """
            piece(WHOLE) = 0; put(0, 13, 13) = 1; about(0, 3) = 13; about(0, 4) = 13; put(0, -6, -6) = 1
            """);
        for (String n : new String[] {"-7", "14", "-100", "MIN", "MAX"}) {
            holds("x, y beyond -6 to 13", "piece(DOT) = 0; piece(WHOLE) = 1; put(0, 2, 3) = 1; put(0, " + n + ", 0) = BAD; put(0, 0, " + n
                + ") = BAD; put(0, " + n + ", " + n + ") = BAD; stands(0, " + n + ", 0) = BAD; stands(0, 0, " + n + ") = BAD; way(0, "
                + n + ", 0) = BAD; way(0, 0, " + n + ") = BAD; about(0, 3) = 2; about(0, 4) = 3; put(1, 0, " + n + ") = BAD; about(1, 5) = 0");
        }
        holds("A piece is away at first", EIGHT + """
            count(3) = 0; about(0, 5) = 0; about(7, 5) = 0; about(0, 3) = -100; about(0, 4) = -100; about(0, 7) = 0
            slide(0, 0, 1) = NO; way(0, 0, 0) = NO; out(0) = NO; blocks(0, 0) = NO; away(0) = 0; order(0, 0) = NONE; apart(0) = NONE
            """);
    }

    private static void standing() {
        for (int y = 0; y < 4; y++) {
            for (int x = 0; x < 4; x++) {
                boolean under = x >= 1 && x <= 2 && y >= 1 && y <= 2;
                String can = under ? "0" : "1";
                String put = under ? "NO" : "1";
                holds("None of its squares is on a wall", "board(4, 4) = 16; piece(BLOCK) = 0; walls(" + y + ", " + (1 << x) + ") = "
                    + (1 << x) + "; stands(0, 1, 1) = " + can + "; put(0, 1, 1) = " + put);
                holds("None of its squares is on a square of another piece that lies", "board(4, 4) = 16; piece(BLOCK) = 0; piece(DOT) = 1; put(1, "
                    + x + ", " + y + ") = 1; stands(0, 1, 1) = " + can + "; put(0, 1, 1) = " + put
                    + "; away(1) = 1; stands(0, 1, 1) = 1; put(0, 1, 1) = 1; stands(1, " + x + ", " + y + ") = " + can);
            }
        }
        holds("A piece is not in its own way", """
            board(4, 4) = 16; piece(BLOCK) = 0; put(0, 1, 1) = 1; stands(0, 1, 1) = 1; stands(0, 0, 1) = 1; stands(0, 2, 1) = 1
            stands(0, 1, 0) = 1; stands(0, 1, 2) = 1; put(0, 1, 1) = 1; put(0, 2, 2) = 1; slide(0, 2, 1) = 1
            """);
        holds("A piece that is away is in nobody's way", """
            board(2, 1) = 2; piece(PAIR) = 0; piece(PAIR) = 1; stands(1, 0, 0) = 1; put(0, 0, 0) = 1; stands(1, 0, 0) = 0
            away(0) = 1; stands(1, 0, 0) = 1; put(1, 0, 0) = 1; board(2, 1) = 2; stands(0, 0, 0) = 1
            """);
        holds("Touching is nothing", """
            board(4, 4) = 16; piece(BLOCK) = 0; piece(PAIR) = 1; piece(PAIR) = 2; piece(POST) = 3; piece(POST) = 4
            put(1, 1, 0) = 1; put(2, 1, 3) = 1; put(3, 0, 1) = 1; put(4, 3, 1) = 1
            walls(0, 9) = 9; walls(3, 9) = 9; put(0, 1, 1) = 1
            """);
        holds("A hole is no square", """
            board(3, 3) = 9; piece(RING) = 0; piece(DOT) = 1; put(1, 1, 1) = 1; put(0, 0, 0) = 1; about(0, 5) = 1; about(1, 5) = 1
            away(1) = 1; walls(1, 2) = 2; stands(0, 0, 0) = 1; stands(1, 1, 1) = 0
            """);
        holds("Pieces stand in one another's way around the board too", """
            piece(DOT) = 0; piece(BAR) = 1; piece(TOWER) = 2; put(1, 9, -6) = 1; put(2, -6, 9) = 1
            stands(0, 13, -6) = 0; stands(0, 8, -6) = 1; stands(0, 13, -5) = 1; stands(0, -6, 13) = 0; stands(0, -6, 8) = 1
            """);
        holds("Squares beyond the last places, in column 17 and row 17, are in the way too", """
            piece(ENDS) = 0; piece(48) = 1; put(0, 13, 0) = 1; stands(1, 13, 0) = 0; stands(1, 12, 0) = 1; put(1, 13, 0) = NO
            piece(1048577) = 2; piece(1048578) = 3; put(2, 0, 13) = 1; stands(3, 0, 13) = 0; stands(3, 0, 12) = 1; put(3, 0, 13) = NO
            """);
    }

    private static void outOfTheBoard() {
        String[] sides = {"-2, 0", "3, 0", "0, -2", "0, 2", "-2, -2", "3, 2", "-2, 2", "3, -2"};
        String[] edges = {"-1, 0", "2, 0", "0, -1", "0, 1", "-1, -1", "2, 1", "-1, 1", "2, -1"};
        for (int i = 0; i < sides.length; i++) {
            holds("It is out if none of its squares is on the board", "board(3, 2) = 6; piece(BLOCK) = 0; put(0, " + sides[i]
                + ") = 1; about(0, 7) = 1; out(0) = 0; put(0, " + edges[i] + ") = 1; about(0, 7) = 0; out(0) = 1");
        }
        for (String corner : new String[] {"-6, -6", "13, -6", "-6, 13", "13, 13", "-6, 0", "0, -6", "13, 0", "0, 13"}) {
            holds("It is out at the last places", "board(8, 8) = 64; piece(DOT) = 0; put(0, " + corner + ") = 1; about(0, 7) = 1; out(0) = 0; apart(0) = 0");
        }
        holds("The largest piece is out at the last places but for those near the board", """
            board(12, 10) = 120; piece(WHOLE) = 0; put(0, -6, 0) = 1; about(0, 7) = 1; put(0, -5, 0) = 1; about(0, 7) = 1; put(0, -4, 0) = 1; about(0, 7) = 0
            put(0, 0, -6) = 1; about(0, 7) = 1; put(0, 0, -5) = 1; about(0, 7) = 1; put(0, 0, -4) = 1; about(0, 7) = 0
            put(0, 12, 0) = 1; about(0, 7) = 1; put(0, 11, 0) = 1; about(0, 7) = 0; put(0, 0, 10) = 1; about(0, 7) = 1; put(0, 0, 9) = 1; about(0, 7) = 0
            """);
        holds("Squares that it has not are not on the board", """
            board(1, 1) = 1; piece(RING) = 0; piece(FAR) = 1; piece(ENDS) = 2
            put(0, -1, -1) = 1; about(0, 7) = 1; put(0, -1, 0) = 1; about(0, 7) = 0; put(0, 5, 5) = 1
            put(1, -4, -4) = 1; about(1, 7) = 0; put(1, -3, -3) = 1; about(1, 7) = 1
            put(2, -4, 0) = 1; about(2, 7) = 0; put(2, -3, 0) = 1; about(2, 7) = 1; put(2, -5, 0) = 1; about(2, 7) = 1
            """);
        holds("A piece that is away is not out", "piece(DOT) = 0; about(0, 7) = 0; put(0, 5, 5) = 1; about(0, 7) = 1; away(0) = 1; about(0, 7) = 0");
    }

    // Steps and ways.

    private static void steps() {
        holds("0 right", "piece(DOT) = 0; put(0, 3, 3) = 1; slide(0, 0, 1) = 1; about(0, 3) = 4; about(0, 4) = 3");
        holds("1 up", "piece(DOT) = 0; put(0, 3, 3) = 1; slide(0, 1, 1) = 1; about(0, 3) = 3; about(0, 4) = 4");
        holds("2 left", "piece(DOT) = 0; put(0, 3, 3) = 1; slide(0, 2, 1) = 1; about(0, 3) = 2; about(0, 4) = 3");
        holds("3 down", "piece(DOT) = 0; put(0, 3, 3) = 1; slide(0, 3, 1) = 1; about(0, 3) = 3; about(0, 4) = 2");
        holds("It must be able to stand where it comes to: walls", """
            board(3, 3) = 9; piece(DOT) = 0; put(0, 1, 1) = 1; walls(0, 2) = 2; walls(1, 5) = 5; walls(2, 2) = 2
            slide(0, 0, 20) = 0; slide(0, 1, 20) = 0; slide(0, 2, 20) = 0; slide(0, 3, 20) = 0; out(0) = NONE; way(0, 0, 0) = NONE
            """);
        holds("It must be able to stand where it comes to: pieces", """
            piece(DOT) = 0; piece(RING) = 1; put(0, 6, 6) = 1; put(1, 5, 5) = 1
            slide(0, 0, 20) = 0; slide(0, 1, 20) = 0; slide(0, 2, 20) = 0; slide(0, 3, 20) = 0; slide(1, 0, 1) = 0; way(0, 8, 8) = NONE
            """);
        holds("x, y stay -6 to 13", """
            piece(WHOLE) = 0; put(0, 13, 13) = 1; slide(0, 0, 1) = 0; slide(0, 1, 1) = 0
            put(0, -6, -6) = 1; slide(0, 2, 1) = 0; slide(0, 3, 1) = 0
            put(0, 12, 12) = 1; slide(0, 0, 2) = 1; slide(0, 1, 2) = 1; about(0, 3) = 13; about(0, 4) = 13
            put(0, -5, -5) = 1; slide(0, 2, 2) = 1; slide(0, 3, 2) = 1; about(0, 3) = -6; about(0, 4) = -6
            """);
        holds("x stays -6 to 13 on a way: no way around bars from end to end", """
            piece(BAR) = 0; piece(BAR) = 1; piece(BAR) = 2; piece(BAR) = 3; piece(DOT) = 4
            put(0, -6, 5) = 1; put(1, -1, 5) = 1; put(2, 4, 5) = 1; put(3, 9, 5) = 1; put(4, 13, 4) = 1
            way(4, 13, 6) = NONE; way(4, -6, 4) = 19; put(4, -6, 4) = 1; way(4, -6, 6) = NONE
            put(3, 10, 5) = 1; put(2, 5, 5) = 1; put(1, 0, 5) = 1; put(0, -5, 5) = 1; way(4, -6, 6) = 2
            put(4, 13, 4) = 1; way(4, 13, 6) = 40
            """);
        holds("y stays -6 to 13 on a way: no way around towers from end to end", """
            piece(TOWER) = 0; piece(TOWER) = 1; piece(TOWER) = 2; piece(TOWER) = 3; piece(DOT) = 4
            put(0, 5, -6) = 1; put(1, 5, -1) = 1; put(2, 5, 4) = 1; put(3, 5, 9) = 1; put(4, 4, 13) = 1
            way(4, 6, 13) = NONE; way(4, 4, -6) = 19; put(4, 4, -6) = 1; way(4, 6, -6) = NONE
            put(3, 5, 10) = 1; put(2, 5, 5) = 1; put(1, 5, 0) = 1; put(0, 5, -5) = 1; way(4, 6, -6) = 2
            put(4, 4, 13) = 1; way(4, 6, 13) = 40
            """);
        holds("n is 1 to 20", """
            piece(DOT) = 0; put(0, -6, 0) = 1; slide(0, 0, 1) = 1; about(0, 3) = -5; slide(0, 0, 20) = 18; about(0, 3) = 13
            slide(0, 2, 18) = 18; slide(0, 2, 20) = 1; slide(0, 0, 19) = 19; slide(0, 2, 20) = 19
            slide(0, 0, 0) = BAD; slide(0, 0, 21) = BAD; slide(0, 0, -1) = BAD; slide(0, 0, MIN) = BAD; slide(0, 0, MAX) = BAD
            about(0, 3) = -6
            """);
    }

    private static void ways() {
        holds("Of several the lesser: 0 ahead of 1", "piece(DOT) = 0; put(0, 5, 5) = 1; way(0, 6, 6) = 2; stepOf(0) = 0; stepOf(1) = 1; stepOf(2) = NONE");
        holds("Of several the lesser: 0 ahead of 3", "piece(DOT) = 0; put(0, 5, 5) = 1; way(0, 6, 4) = 2; stepOf(0) = 0; stepOf(1) = 3; stepOf(2) = NONE");
        holds("Of several the lesser: 1 ahead of 2", "piece(DOT) = 0; put(0, 5, 5) = 1; way(0, 4, 6) = 2; stepOf(0) = 1; stepOf(1) = 2; stepOf(2) = NONE");
        holds("Of several the lesser: 2 ahead of 3", "piece(DOT) = 0; put(0, 5, 5) = 1; way(0, 4, 4) = 2; stepOf(0) = 2; stepOf(1) = 3; stepOf(2) = NONE");
        holds("Of several the lesser: 0 ahead of 2", """
            board(3, 1) = 3; walls(0, 7) = 7; piece(DOT) = 0; put(0, 1, -1) = 1; way(0, 1, 1) = 6
            stepOf(0) = 0; stepOf(1) = 0; stepOf(2) = 1; stepOf(3) = 1; stepOf(4) = 2; stepOf(5) = 2; stepOf(6) = NONE
            """);
        holds("Of several the lesser: 1 ahead of 3", """
            board(1, 3) = 3; walls(0, 1) = 1; walls(1, 1) = 1; walls(2, 1) = 1; piece(DOT) = 0; put(0, -1, 1) = 1; way(0, 1, 1) = 6
            stepOf(0) = 1; stepOf(1) = 1; stepOf(2) = 0; stepOf(3) = 0; stepOf(4) = 3; stepOf(5) = 3; stepOf(6) = NONE
            """);
        holds("The first step that differs decides, not the last", """
            board(3, 3) = 9; walls(1, 2) = 2; piece(DOT) = 0; put(0, 0, 0) = 1; way(0, 2, 2) = 4
            stepOf(0) = 0; stepOf(1) = 0; stepOf(2) = 1; stepOf(3) = 1
            """);
        holds("Fewest steps ahead of lesser steps", """
            board(2, 1) = 2; walls(0, 3) = 3; piece(DOT) = 0; put(0, 0, -1) = 1; way(0, 0, 1) = 4
            stepOf(0) = 2; stepOf(1) = 1; stepOf(2) = 1; stepOf(3) = 0; stepOf(4) = NONE
            """);
        holds("To where it lies there are no steps", "piece(DOT) = 0; put(0, 0, 0) = 1; way(0, 0, 0) = 0; stepOf(0) = NONE");
        holds("A way is of single steps: it slips through no corner", """
            board(4, 4) = 16; walls(0, 15) = 15; walls(1, 13) = 13; walls(2, 11) = 11; walls(3, 15) = 15
            piece(DOT) = 0; put(0, 1, 1) = 1; way(0, 2, 2) = NONE; walls(1, 9) = 9; way(0, 2, 2) = 2; stepOf(0) = 0; stepOf(1) = 1
            """);
        holds("The last places have a way, those beyond are none", """
            piece(DOT) = 0; put(0, -6, -6) = 1; way(0, 13, 13) = 38; stepOf(0) = 0; stepOf(18) = 0; stepOf(19) = 1; stepOf(37) = 1; stepOf(38) = NONE
            put(0, 13, 13) = 1; way(0, -6, -6) = 38; stepOf(0) = 2; stepOf(18) = 2; stepOf(19) = 3; stepOf(37) = 3; stepOf(38) = NONE
            way(0, -7, -6) = BAD; way(0, 13, 14) = BAD
            """);
        holds("There is none", """
            board(3, 3) = 9; piece(DOT) = 0; piece(DOT) = 1; walls(0, 1) = 1; put(0, 1, 1) = 1; put(1, 2, 2) = 1
            way(0, 0, 0) = NONE; way(0, 2, 2) = NONE; way(0, 1, 2) = 1
            """);
    }

    private static void longWays() {
        // Four lanes, one above the other, joined at one end each, walls all around.
        holds("A way through a maze", """
            board(12, 10) = 120; walls(0, 4095) = 4095; walls(1, 2049) = 2049; walls(2, 3071) = 3071; walls(3, 2049) = 2049
            walls(4, 4093) = 4093; walls(5, 2049) = 2049; walls(6, 3071) = 3071; walls(7, 2049) = 2049; walls(8, 4095) = 4095
            piece(DOT) = 0; put(0, 1, 1) = 1; way(0, 1, 7) = 42
            stepOf(0) = 0; stepOf(8) = 0; stepOf(9) = 1; stepOf(10) = 1; stepOf(11) = 2; stepOf(19) = 2; stepOf(20) = 1; stepOf(21) = 1
            stepOf(22) = 0; stepOf(30) = 0; stepOf(31) = 1; stepOf(32) = 1; stepOf(33) = 2; stepOf(41) = 2; stepOf(42) = NONE
            out(0) = NONE; places(0, 1) = 1; way(0, 0, 0) = NONE; walls(7, 2048) = 2048; out(0) = 44; places(0, 1) = 0; way(0, -1, 7) = 44
            """);
    }

    private static void rooms() {
        String corner = "board(4, 4) = 16; piece(DOT) = 0; walls(0, 15) = 15; walls(1, 13) = 13; walls(2, 11) = 11; walls(3, 15) = 15;";
        holds("Rooms: one place and the next by a step, not over a corner", corner + "places(0, 1) = 2");
        holds("Rooms: joined from right to left", corner + "walls(1, 9) = 9; places(0, 1) = 1");
        holds("Rooms: joined from below", corner + "walls(2, 9) = 9; places(0, 1) = 1");
        holds("Rooms: told without the one in which it is out", corner + "walls(3, 11) = 11; places(0, 1) = 1; walls(1, 12) = 12; places(0, 1) = 0");
        holds("Rooms: none on a board without walls", "board(12, 10) = 120; piece(DOT) = 0; places(0, 1) = 0");
        holds("Rooms: none in walls alone", "board(2, 1) = 2; piece(DOT) = 0; walls(0, 3) = 3; places(0, 1) = 0");
        holds("Rooms: a place that is partly off the board is in one too", """
            board(1, 4) = 4; piece(DOT) = 0; piece(ENDS) = 1; places(1, 1) = 0; board(12, 3) = 36
            walls(0, 4095) = 4095; walls(1, 4081) = 4081; walls(2, 4095) = 4095; piece(TRIO) = 2
            places(2, 1) = 1; walls(1, 4080) = 4080; places(2, 1) = 0
            """);
        holds("Rooms: a ring around another place makes one", """
            board(5, 5) = 25; piece(RING) = 0; piece(DOT) = 1; put(0, 1, 1) = 1; places(1, 1) = 1; put(0, 3, 1) = 1; places(1, 1) = 1
            put(0, 4, 1) = 1; places(1, 1) = 0; put(0, -1, -1) = 1; places(1, 1) = 1; put(0, -2, -1) = 1; places(1, 1) = 0
            """);
        holds("Rooms: a place apart in which it is out makes none", """
            piece(DOT) = 0; piece(SLANT) = 1; put(1, -6, -6) = 1; stands(0, -6, -6) = 1; places(0, 1) = 0; put(0, -6, -6) = 1; slide(0, 0, 1) = 0; slide(0, 1, 1) = 0
            places(0, 1) = 0; out(0) = 0
            """);
        // Below the board the dots leave the great piece one place in which it is out, or none, if the fifth is a row higher.
        holds("Rooms: one that is apart, with one place in which it is out, makes none", """
            board(12, 10) = 120; piece(WHOLE) = 0; piece(DOT) = 1; piece(DOT) = 2; piece(DOT) = 3; piece(DOT) = 4; piece(DOT) = 5; walls(1, 16) = 16
            put(1, -2, -2) = 1; put(2, 3, -2) = 1; put(3, 9, -2) = 1; put(4, 13, -2) = 1; put(5, 4, -6) = 1
            stands(0, 4, -5) = 1; stands(0, 4, -4) = 1; stands(0, 3, -4) = 0; stands(0, 5, -4) = 0; stands(0, 4, -3) = 0; places(0, 1) = 0
            put(5, 4, -5) = 1; stands(0, 4, -5) = 0; stands(0, 4, -4) = 1; places(0, 1) = 1; walls(1, 0) = 0; places(0, 1) = 0
            """);
        holds("Rooms: its own squares are no border", """
            board(5, 3) = 15; piece(DOT) = 0; walls(0, 31) = 31; walls(1, 17) = 17; walls(2, 31) = 31; places(0, 1) = 1; put(0, 2, 1) = 1; places(0, 1) = 1
            piece(DOT) = 1; places(1, 1) = 2; away(0) = 1; places(1, 1) = 1
            """);
        StringBuilder squares = new StringBuilder("board(12, 10) = 120; piece(DOT) = 0; walls(0, 4095) = 4095; walls(9, 4095) = 4095;");
        for (int y = 1; y < 9; y++) {
            int bits = y % 2 == 0 ? 4095 - 1364 : 4095 - 682;
            squares.append("walls(" + y + ", " + bits + ") = " + bits + ";");
        }
        holds("Rooms: forty of one square each", squares + "count(4) = 80; places(0, 0) = 40; places(0, 1) = 40");
    }

    // Who blocks whom, and in what order they go.

    private static void blocking() {
        holds("It would come upon a square: ahead, not behind, not beside", """
            piece(DOT) = 0; piece(DOT) = 1; put(0, 3, 3) = 1; put(1, 4, 3) = 1
            blocks(0, 0) = 2; blocks(0, 1) = 0; blocks(0, 2) = 0; blocks(0, 3) = 0
            blocks(1, 0) = 0; blocks(1, 1) = 0; blocks(1, 2) = 1; blocks(1, 3) = 0
            put(1, 3, 4) = 1; blocks(0, 0) = 0; blocks(0, 1) = 2; blocks(0, 2) = 0; blocks(0, 3) = 0; blocks(1, 1) = 0; blocks(1, 3) = 1
            put(1, 4, 4) = 1; blocks(0, 0) = 0; blocks(0, 1) = 0; blocks(1, 2) = 0; blocks(1, 3) = 0
            """);
        holds("Moved on and on, from end to end", """
            piece(DOT) = 0; piece(DOT) = 1; put(0, -6, -6) = 1; put(1, 13, -6) = 1; blocks(0, 0) = 2; blocks(1, 2) = 1
            put(1, -6, 13) = 1; blocks(0, 1) = 2; blocks(1, 3) = 1; blocks(0, 0) = 0
            """);
        holds("Moved on and on, to squares beyond the last place", """
            piece(ENDS) = 0; piece(1048577) = 1; piece(DOT) = 2; put(0, 13, 0) = 1; put(2, -6, 0) = 1; blocks(2, 0) = 1; blocks(0, 2) = 4
            put(0, 13, 5) = 1; put(2, 1, 5) = 1; blocks(2, 0) = 1
            put(1, 0, 13) = 1; put(2, 0, -6) = 1; blocks(2, 1) = 2; blocks(1, 3) = 4
            """);
        holds("Moved on and on, from squares beyond the last place to the first column and row, and back", """
            piece(513) = 0; piece(2097153) = 1; piece(DOT) = 2; put(0, 13, 0) = 1; put(2, -6, 1) = 1; blocks(2, 0) = 1; blocks(0, 2) = 4
            put(1, 0, 13) = 1; put(2, 1, -6) = 1; blocks(2, 1) = 2; blocks(1, 3) = 4
            """);
        holds("What lies in the first column is beside one that lies elsewhere", """
            piece(DOT) = 0; piece(TOWER) = 1; put(0, 0, 0) = 1; put(1, -6, -2) = 1; blocks(0, 1) = 0; blocks(0, 3) = 0; blocks(0, 0) = 0; blocks(0, 2) = 2
            put(1, -6, 1) = 1; blocks(0, 2) = 0; blocks(0, 1) = 0; put(1, -6, -5) = 1; blocks(0, 2) = 0; blocks(0, 3) = 0
            """);
        holds("Wherever the others are", """
            piece(DOT) = 0; piece(DOT) = 1; piece(DOT) = 2; put(0, 0, 0) = 1; put(1, 2, 0) = 1; put(2, 4, 0) = 1
            blocks(0, 0) = 6; blocks(1, 0) = 4; blocks(2, 0) = 0; blocks(2, 2) = 3; blocks(1, 2) = 1; blocks(0, 2) = 0
            """);
        holds("Wherever the others are, one above the other", """
            piece(DOT) = 0; piece(BAR) = 1; piece(DOT) = 2; put(0, 2, 0) = 1; put(1, 0, 2) = 1; put(2, 2, 4) = 1
            blocks(0, 1) = 6; blocks(1, 1) = 4; blocks(2, 1) = 0; blocks(2, 3) = 3; blocks(1, 3) = 1; blocks(0, 3) = 0
            """);
        holds("Walls count for nothing there", """
            board(5, 1) = 5; piece(DOT) = 0; piece(DOT) = 1; put(0, 0, 0) = 1; put(1, 4, 0) = 1; walls(0, 14) = 14
            slide(0, 0, 20) = 0; blocks(0, 0) = 2; blocks(1, 2) = 1; blocks(0, 1) = 0; order(0, 0) = 1; order(0, 1) = 0; order(0, -1) = 0
            """);
        holds("Squares apart: what is between its own squares blocks it on one side alone, or on both", """
            piece(ENDS) = 0; piece(DOT) = 1; put(0, 0, 0) = 1; put(1, 2, 0) = 1; blocks(0, 0) = 2; blocks(0, 2) = 2; blocks(0, 1) = 0
            blocks(1, 0) = 1; blocks(1, 2) = 1; put(1, 2, 1) = 1; blocks(0, 1) = 0; blocks(0, 0) = 0; put(1, 4, 1) = 1; blocks(0, 1) = 2
            """);
        holds("Eight in a row: the first is blocked by seven, the last by none", """
            piece(DOT) = 0; piece(DOT) = 1; piece(DOT) = 2; piece(DOT) = 3; piece(DOT) = 4; piece(DOT) = 5; piece(DOT) = 6; piece(DOT) = 7
            put(0, 0, 0) = 1; put(1, 1, 0) = 1; put(2, 2, 0) = 1; put(3, 3, 0) = 1; put(4, 4, 0) = 1; put(5, 5, 0) = 1; put(6, 6, 0) = 1
            put(7, 7, 0) = 1; blocks(0, 0) = 254; blocks(7, 0) = 0; blocks(7, 2) = 127; blocks(0, 2) = 0; blocks(3, 0) = 240; blocks(3, 2) = 7
            order(0, 0) = 7; order(0, 7) = 0; order(0, 8) = NONE; order(2, 0) = 0; order(2, 7) = 7; order(2, 8) = NONE; order(0, -1) = 0
            """);
    }

    private static void orders() {
        holds("Again and again the lowest: it is begun anew after each", """
            piece(DOT) = 0; piece(DOT) = 1; piece(DOT) = 2; put(0, 0, 0) = 1; put(1, 1, 0) = 1; put(2, 5, 5) = 1
            order(0, 0) = 1; order(0, 1) = 0; order(0, 2) = 2; order(0, 3) = NONE; order(1, 0) = 0; order(1, 1) = 1; order(1, 2) = 2
            """);
        holds("No other one left: those that went block none", """
            piece(DOT) = 0; piece(DOT) = 1; put(0, 0, 0) = 1; put(1, 0, 5) = 1; blocks(0, 1) = 2; order(1, 0) = 1; order(1, 1) = 0; order(1, -1) = 0
            """);
        holds("The knot: none can", """
            piece(DOT) = 0; piece(RING) = 1; put(1, 3, 3) = 1; put(0, 4, 4) = 1
            order(0, -1) = 3; order(1, -1) = 3; order(2, -1) = 3; order(3, -1) = 3; order(0, 0) = NONE; order(3, 0) = NONE
            """);
        holds("The knot of all eight", """
            piece(DOT) = 0; piece(RING) = 1; piece(DOT) = 2; piece(RING) = 3; piece(DOT) = 4; piece(RING) = 5; piece(DOT) = 6; piece(RING) = 7
            put(1, -6, -6) = 1; put(0, -5, -5) = 1; put(3, 0, 0) = 1; put(2, 1, 1) = 1; put(5, 5, 5) = 1; put(4, 6, 6) = 1
            put(7, 13, 13) = 1; put(6, 14, 13) = BAD; order(0, -1) = 63; order(0, 0) = 7; order(0, 1) = NONE
            put(7, 12, 12) = 1; put(6, 13, 13) = 1; order(0, -1) = 255; order(1, -1) = 255; order(2, -1) = 255; order(3, -1) = 255
            order(0, 0) = NONE; order(0, 7) = NONE; count(3) = 8
            """);
        holds("The knot is what is left after those that went", """
            piece(RING) = 0; piece(DOT) = 1; piece(DOT) = 2; piece(DOT) = 3; put(0, 3, 3) = 1; put(1, 4, 4) = 1; put(2, 8, 4) = 1; put(3, 0, 4) = 1
            order(0, 0) = 2; order(0, 1) = NONE; order(0, -1) = 11; order(2, 0) = 3; order(2, 1) = NONE; order(2, -1) = 7
            order(1, 0) = 2; order(1, 1) = 3; order(1, 2) = NONE; order(1, -1) = 3
            """);
        holds("None lies: no order, no knot", "piece(DOT) = 0; order(0, -1) = 0; order(0, 0) = NONE; order(3, -1) = 0; order(3, 0) = NONE");
        holds("A piece that is away goes in no order", """
            piece(DOT) = 0; piece(DOT) = 1; put(1, 0, 0) = 1; order(0, 0) = 1; order(0, 1) = NONE; order(0, -1) = 0
            put(0, 1, 0) = 1; order(0, 0) = 0; order(0, 1) = 1; away(1) = 1; order(0, 0) = 0; order(0, 1) = NONE
            """);
    }

    private static void takenApart() {
        holds("One that is out goes: it has a way of no steps", "piece(DOT) = 0; put(0, 5, 5) = 1; apart(0) = 0; apart(1) = NONE; apart(-1) = 0");
        holds("One that is away does not go, and is not stuck", """
            piece(DOT) = 0; piece(DOT) = 1; put(1, 0, 0) = 1; apart(0) = 1; apart(1) = NONE; apart(-1) = 0; away(1) = 1; apart(0) = NONE; apart(-1) = 0
            """);
        holds("None lies", "apart(0) = NONE; apart(-1) = 0; piece(DOT) = 0; apart(0) = NONE; apart(-1) = 0");
        holds("Again and again the lowest that has a way: it is begun anew after each", """
            board(4, 3) = 12; piece(DOT) = 0; piece(DOT) = 1; piece(DOT) = 2; put(0, 1, 1) = 1; put(1, 2, 1) = 1; put(2, 8, 8) = 1
            walls(0, 15) = 15; walls(2, 15) = 15; walls(1, 1) = 1; apart(0) = 1; apart(1) = 0; apart(2) = 2; apart(3) = NONE; apart(-1) = 0
            walls(1, 9) = 9; apart(0) = 2; apart(1) = NONE; apart(-1) = 3
            """);
        holds("Walls count there", """
            board(3, 3) = 9; piece(DOT) = 0; put(0, 1, 1) = 1; walls(0, 7) = 7; walls(1, 5) = 5; walls(2, 7) = 7
            apart(-1) = 1; apart(0) = NONE; order(0, 0) = 0; order(0, -1) = 0; walls(2, 5) = 5; apart(0) = 0; apart(-1) = 0
            """);
        holds("Eight go", """
            board(8, 1) = 8; piece(DOT) = 0; piece(DOT) = 1; piece(DOT) = 2; piece(DOT) = 3
            piece(DOT) = 4; piece(DOT) = 5; piece(DOT) = 6; piece(DOT) = 7
            put(0, 7, 0) = 1; put(1, 6, 0) = 1; put(2, 5, 0) = 1; put(3, 4, 0) = 1; put(4, 3, 0) = 1; put(5, 2, 0) = 1; put(6, 1, 0) = 1
            put(7, 0, 0) = 1; apart(0) = 0; apart(6) = 6; apart(7) = 7; apart(8) = NONE; apart(-1) = 0; count(3) = 8
            """);
        holds("Eight are stuck", """
            board(12, 10) = 120; piece(DOT) = 0; piece(RING) = 1; piece(DOT) = 2; piece(RING) = 3
            piece(DOT) = 4; piece(RING) = 5; piece(DOT) = 6; piece(RING) = 7
            put(1, 0, 0) = 1; put(0, 1, 1) = 1; put(3, 3, 0) = 1; put(2, 4, 1) = 1; put(5, 6, 0) = 1; put(4, 7, 1) = 1; put(7, 9, 0) = 1; put(6, 10, 1) = 1
            apart(-1) = 255; apart(0) = NONE; apart(7) = NONE; away(0) = 1; apart(-1) = 252; apart(0) = 1; apart(1) = NONE
            """);
        holds("It steps around those left, and those that went are not in its way", """
            board(3, 1) = 3; piece(RING) = 0; piece(DOT) = 1; put(0, 0, -1) = 1; put(1, 1, 0) = 1; apart(-1) = 3; apart(0) = NONE
            put(1, 8, 8) = 1; apart(0) = 0; apart(1) = 1
            """);
        holds("Nothing moves", """
            board(3, 3) = 9; piece(DOT) = 0; piece(DOT) = 1; put(0, 1, 1) = 1; put(1, 2, 1) = 1; apart(0) = 0; apart(-1) = 0
            about(0, 3) = 1; about(0, 4) = 1; about(0, 5) = 1; about(1, 3) = 2; count(3) = 2; apart(0) = 0; apart(1) = 1
            """);
    }

    private static void pushes() {
        String pair = "piece(WHOLE) = 0; piece(WHOLE) = 1; piece(BAR) = 2; piece(BAR) = 3; piece(TOWER) = 4; piece(TOWER) = 5; piece(DOT) = 6; piece(SLANT) = 7;";
        holds("The least of the sizes together: as far as five", pair + "push(0, 1, 0) = -5; push(0, 1, 1) = 0; push(1, 0, 0) = -5; push(1, 0, 1) = 0");
        holds("No square in common: no push", pair + "push(6, 7, 0) = 0; push(6, 7, 1) = 0; push(7, 6, 0) = 0; push(7, 6, 1) = 0");
        holds("Of several the least dx", pair + "push(4, 5, 0) = -1; push(4, 5, 1) = 0; push(6, 0, 0) = -1; push(6, 0, 1) = 0");
        holds("Of several of one dx the least dy", pair + "push(2, 3, 0) = 0; push(2, 3, 1) = -1");
        holds("Right, if that is least", pair + "push(0, 4, 0) = 1; push(0, 4, 1) = 0");
        holds("Up, if that is least", pair + "push(0, 2, 0) = 0; push(0, 2, 1) = 1");
        holds("Left, if that is least", pair + "push(4, 0, 0) = -1; push(4, 0, 1) = 0");
        holds("Down, if that is least", pair + "push(2, 0, 0) = 0; push(2, 0, 1) = -1");
        String four = "piece(SLANT) = 0; piece(67) = 1; piece(37) = 2; piece(CORNER) = 3;";
        holds("The sizes of dx and dy together, not the greater one", four + "push(0, 1, 0) = -2; push(0, 1, 1) = 0");
        holds("Both ways, if that is least; of one dx the least dy", four + "push(2, 3, 0) = -1; push(2, 3, 1) = -1");
        holds("Where they lie counts for nothing", pair + """
            put(0, -6, -6) = 1; put(2, 13, 13) = 1; push(0, 2, 0) = 0; push(0, 2, 1) = 1; push(2, 0, 1) = -1; away(0) = 1; push(0, 2, 1) = 1
            """);
        holds("Walls count for nothing", pair + "board(12, 10) = 120; walls(0, 4095) = 4095; push(0, 2, 1) = 1");
    }

    // Strips.

    private static void strips() {
        holds("One column", "piece(DOT) = 0; piece(TOWER) = 1; strip(1, 2, 8, 0) = 6; strip(1, 2, 8, 1) = 0; strip(1, 2, 8, 2) = 100; strip(1, 2, 1, 2) = 500");
        holds("Twelve columns: no square beyond the last one", """
            piece(WHOLE) = 0; piece(WHOLE) = 1; piece(PAIR) = 2; piece(DOT) = 3
            strip(12, 3, 136, 0) = 5; strip(12, 3, 136, 1) = 0; strip(12, 3, 136, 2) = 5; strip(12, 3, 136, 3) = 10
            strip(11, 3, 136, 0) = 6; strip(11, 3, 136, 3) = 500; strip(11, 3, 200, 3) = 10
            strip(9, 2, 8, 2) = 500; strip(10, 2, 8, 2) = 5
            """);
        holds("Rows without end upwards", """
            piece(WHOLE) = 0; piece(WHOLE) = 1; piece(WHOLE) = 2; piece(WHOLE) = 3; piece(WHOLE) = 4
            strip(5, 5, 18056, 0) = 25; strip(5, 5, 18056, 1) = 0; strip(5, 5, 18056, 5) = 2000; best(5, 31, 0) = 25; best(5, 31, 1) = 18056
            """);
        holds("The least y ahead of the least x", """
            piece(POST) = 0; piece(DOT) = 1; piece(DOT) = 2; strip(2, 3, 136, 1) = 0; strip(2, 3, 136, 2) = 1; strip(2, 3, 136, 3) = 101; strip(2, 3, 136, 0) = 2
            """);
        holds("x is 0 at least, though column 0 of the piece is empty in its lowest row", """
            piece(SLANT) = 0; piece(DOT) = 1; strip(2, 1, 0, 1) = 0; strip(2, 2, 8, 2) = 0; strip(2, 2, 1, 1) = 0; strip(2, 2, 1, 2) = 0; strip(2, 2, 1, 0) = 2
            """);
        holds("No square of it is on one of those ahead, though squares are in one another's rows", """
            piece(CUP) = 0; piece(BOWL) = 1; piece(DOT) = 2; strip(3, 2, 8, 0) = 6; strip(3, 2, 8, 2) = 300; strip(4, 2, 1, 0) = 4; strip(4, 2, 1, 2) = 101
            strip(3, 2, 16, 2) = 1; strip(3, 2, 17, 2) = 101
            """);
        holds("No square of its topmost row is on one of those ahead", """
            piece(2097153) = 0; piece(1048577) = 1; strip(2, 2, 8, 2) = 100; strip(2, 2, 8, 0) = 6; strip(3, 2, 8, 2) = 2
            """);
        holds("Nothing need slide there", """
            piece(RING) = 0; piece(DOT) = 1; piece(BAR) = 2; strip(3, 2, 8, 2) = 101; strip(3, 2, 8, 0) = 3; strip(5, 3, 80, 0) = 4
            strip(5, 3, 80, 3) = 3; strip(5, 3, 80, 2) = 300
            """);
        holds("Height: up to the topmost square, of any piece", """
            piece(TOWER) = 0; piece(DOT) = 1; strip(2, 2, 8, 0) = 5; strip(2, 2, 1, 0) = 5; strip(1, 2, 8, 0) = 6; strip(1, 1, 1, 0) = 1; strip(1, 1, 0, 0) = 5
            """);
        holds("As wide as the strip", "piece(BAR) = 0; strip(5, 1, 0, 0) = 1; strip(5, 1, 0, 1) = 0; strip(4, 1, 0, 0) = BAD; best(5, 1, 0) = 1; best(4, 1, 0) = BAD");
        holds("Five pieces, the greatest numbers", EIGHT + """
            strip(12, 5, 19359, 0) = 5; strip(12, 5, 19359, 1) = 0; strip(12, 5, 19359, 2) = 3; strip(12, 5, 19359, 3) = 5
            strip(12, 5, 19359, 4) = 6; strip(12, 5, 19359, 5) = 106
            """);
    }

    private static void refusedStrips() {
        String many = EIGHT + "strip(12, 5, 18056, 0) = 2;";
        for (String w : new String[] {"0", "13", "-1", "-12", "32", "33", "MIN", "MAX"}) {
            holds("18: W is 1 to 12", many + "strip(" + w + ", 1, 0, 0) = BAD; strip(" + w + ", 5, 18056, 0) = BAD; best(" + w + ", 1, 0) = BAD; best(" + w + ", 31, 1) = BAD");
        }
        holds("18: W is 1 to 12, the ends", many + "strip(1, 1, 0, 0) = 1; strip(12, 1, 0, 0) = 1; best(1, 1, 0) = 1; best(12, 1, 0) = 1");
        for (String n : new String[] {"0", "6", "-1", "8", "10", "11", "32", "33", "MIN", "MAX"}) {
            holds("18: n is 1 to 5", many + "strip(12, " + n + ", 0, 0) = BAD; strip(12, " + n + ", 8, 0) = BAD; strip(12, " + n + ", 181896, 0) = BAD");
        }
        for (int n = 1; n <= 5; n++) {
            int order = 18056 & (1 << 3 * n) - 1;
            String start = "strip(12, " + n + ", ";
            holds("18: k is 0 to n - 1", many + start + order + ", " + n + ") = " + new int[] {0, 1, 3, 4, 6}[n - 1] + ";" + start + order + ", " + (n + 1)
                + ") = BAD;" + start + order + ", -1) = BAD;" + start + order + ", MIN) = BAD;" + start + order + ", MAX) = BAD");
            StringBuilder bits = new StringBuilder(many);
            for (int bit = 3 * n; bit < 32; bit++) {
                bits.append(start + (order | 1 << bit) + ", 0) = BAD;");
            }
            holds("18: other bits", bits.toString());
        }
        holds("18: one is none", """
            piece(DOT) = 0; piece(DOT) = 1; strip(3, 1, 1, 0) = 1; strip(3, 1, 2, 0) = BAD; strip(3, 1, 7, 0) = BAD; strip(3, 2, 8, 0) = 1
            strip(3, 2, 16, 0) = BAD; strip(3, 2, 2, 0) = BAD; strip(3, 2, 57, 0) = BAD; strip(3, 3, 136, 0) = BAD
            """);
        holds("18: one is twice", EIGHT + """
            strip(5, 2, 0, 0) = BAD; strip(5, 2, 63, 0) = BAD; strip(5, 3, 8, 0) = BAD; strip(5, 3, 1, 0) = BAD; strip(5, 3, 65, 0) = BAD
            strip(5, 5, 5768, 0) = BAD; strip(5, 5, 1672, 0) = BAD; strip(5, 5, 18060, 0) = BAD; strip(5, 5, 17544, 5) = BAD
            """);
        holds("18: one is wider than W", EIGHT + """
            strip(2, 1, 7, 0) = BAD; strip(3, 1, 7, 0) = 3; strip(2, 2, 56, 0) = BAD; strip(2, 2, 7, 0) = BAD; strip(4, 3, 328, 1) = BAD
            strip(5, 3, 328, 1) = 0; strip(1, 5, 18056, 0) = BAD; strip(1, 2, 48, 0) = 6
            """);
        holds("18: which was refused changes no strip told later", many + "strip(12, 6, 0, 0) = BAD; strip(12, 5, 18056, 0) = 2; strip(12, 5, 18056, 5) = 6");
    }

    private static void bestOrders() {
        holds("19: one piece", EIGHT + "best(12, 1, 0) = 1; best(12, 1, 1) = 0; best(12, 128, 0) = 3; best(12, 128, 1) = 7; best(1, 64, 0) = 5; best(1, 64, 1) = 6");
        holds("19: five pieces at most", EIGHT + "best(12, 31, 0) = 2; best(12, 31, 1) = 18056; best(12, 248, 0) = 5; best(12, 63, 0) = BAD; best(12, 252, 1) = BAD; best(12, 255, 0) = BAD");
        holds("19: of several the first piece that differs is lower", """
            piece(DOT) = 0; piece(DOT) = 1; piece(DOT) = 2; piece(DOT) = 3; piece(DOT) = 4
            best(1, 31, 0) = 5; best(1, 31, 1) = 18056; best(5, 31, 0) = 1; best(5, 31, 1) = 18056; best(2, 26, 1) = 281; best(2, 24, 1) = 35
            """);
        holds("19: the least height ahead of lower pieces", """
            piece(CORNER) = 0; piece(DOT) = 1; piece(BAR) = 2; best(2, 3, 0) = 2; best(2, 3, 1) = 8; best(5, 5, 0) = 3; best(5, 5, 1) = 16
            strip(5, 2, 16, 0) = 3; strip(5, 2, 2, 0) = 3
            """);
        holds("19: a higher piece first, if that alone is least", """
            piece(DOT) = 0; piece(PAIR) = 1; strip(2, 2, 8, 0) = 2; piece(SLANT) = 2; best(2, 5, 0) = 2; best(2, 5, 1) = 16
            piece(66) = 3; strip(2, 1, 3, 0) = 2
            """);
    }

    private static void refusedBestOrders() {
        String three = "piece(DOT) = 0; piece(PAIR) = 1; piece(BAR) = 2; best(5, 7, 0) = 2;";
        for (String set : new String[] {"0", "8", "9", "15", "16", "64", "128", "256", "65536", "-1", "-7", "MIN", "MAX"}) {
            holds("19: a set of what is none", three + "best(12, " + set + ", 0) = BAD; best(12, " + set + ", 1) = BAD");
        }
        for (String what : new String[] {"-1", "2", "7", "MIN", "MAX"}) {
            holds("19: what is 0 or 1", three + "best(12, 1, " + what + ") = BAD; best(5, 7, " + what + ") = BAD");
        }
        holds("19: wider than W", three + "best(1, 1, 0) = 1; best(1, 2, 0) = BAD; best(1, 3, 1) = BAD; best(2, 3, 1) = 8; best(4, 5, 0) = BAD; best(4, 7, 0) = BAD; best(5, 5, 0) = 2");
        holds("19: the set of all eight has no best order, nor six of them", EIGHT + "best(12, 255, 0) = BAD; best(12, 63, 1) = BAD; best(12, 126, 0) = BAD; best(12, 62, 0) = 2");
    }

    // The promises, one by one: what is left of them.

    private static void newObject() {
        holds("1: one free square, no pieces", """
            count(0) = 1; count(1) = 1; count(2) = 0; count(3) = 0; count(4) = 0; walls(0, 1) = 1; walls(0, 0) = 0; walls(0, 2) = BAD; walls(1, 0) = BAD
            piece(DOT) = 0; places(0, 0) = 1; put(0, 0, 0) = 1; about(0, 7) = 0; out(0) = 1; put(0, 1, 0) = 1; about(0, 7) = 1
            """);
        holds("1: nothing lies, nothing was told", """
            order(0, -1) = 0; order(1, -1) = 0; order(2, -1) = 0; order(3, -1) = 0; order(0, 0) = NONE; apart(-1) = 0; apart(0) = NONE; stepOf(0) = NONE
            strip(1, 1, 0, 0) = BAD; best(1, 1, 0) = BAD; push(0, 1, 0) = -1000; push(0, 0, 0) = -1000
            """);
    }

    private static void board() {
        String lain = "board(4, 3) = 12; piece(DOT) = 0; piece(PAIR) = 1; walls(2, 9) = 9; put(0, 0, 0) = 1; put(1, 2, 1) = 1; way(0, 1, 1) = 2;";
        holds("2: a new board is all free", lain + "board(4, 3) = 12; count(4) = 0; stands(0, 0, 2) = 1; stands(0, 3, 2) = 1");
        holds("2: all pieces are away", lain + "board(4, 3) = 12; count(3) = 0; about(0, 5) = 0; about(1, 5) = 0; about(1, 3) = -100; stands(0, 2, 1) = 1; count(2) = 2");
        holds("2: the pieces stay pieces", lain + "board(1, 1) = 1; count(2) = 2; about(1, 6) = PAIR; put(1, 0, 0) = 1; piece(DOT) = 2");
        holds("2: no step was told on it", lain + "stepOf(0) = 0; board(4, 3) = 12; stepOf(0) = NONE; stepOf(1) = NONE");
        holds("2: refused, all stays", lain + """
            board(0, 3) = BAD; board(13, 3) = BAD; board(4, 0) = BAD; board(4, 11) = BAD
            count(0) = 4; count(1) = 3; count(4) = 2; count(3) = 2; stepOf(0) = 0; stepOf(1) = 1; about(1, 3) = 2; stands(0, 0, 2) = 0
            """);
    }

    private static void walls() {
        for (int y = 0; y < 4; y++) {
            for (int x = 0; x < 4; x++) {
                boolean under = x >= 1 && x <= 2 && y >= 1 && y <= 2;
                int bit = 1 << x;
                holds("3: NO: a piece lies on one", "board(4, 4) = 16; piece(BLOCK) = 0; put(0, 1, 1) = 1; walls(" + y + ", " + bit + ") = "
                    + (under ? "NO; count(4) = 0" : bit + "; count(4) = 1") + "; away(0) = 1; walls(" + y + ", " + bit + ") = " + bit);
            }
        }
        holds("3: NO for the eighth piece too", EIGHT + "board(12, 10) = 120; put(7, 9, 7) = 1; walls(9, 2048) = NO; walls(8, 1024) = 1024; walls(9, 2047) = NO; walls(9, 511) = 511");
        holds("3: a piece that is partly on the board lies on it there", """
            board(3, 3) = 9; piece(BLOCK) = 0; put(0, -1, -1) = 1; walls(0, 1) = NO; walls(0, 6) = 6; walls(1, 7) = 7
            put(0, 2, 2) = 1; walls(2, 4) = NO; walls(2, 3) = 3; walls(1, 7) = 7
            """);
        holds("3: a piece that is out lies on none", "board(3, 3) = 9; piece(BLOCK) = 0; put(0, 3, 0) = 1; walls(0, 7) = 7; walls(1, 7) = 7; put(0, 0, 3) = 1; walls(2, 7) = 7");
        holds("3: none of bits 0 is lain on", "board(3, 1) = 3; piece(TRIO) = 0; put(0, 0, 0) = 1; walls(0, 0) = 0; walls(0, 1) = NO; walls(0, 2) = NO; walls(0, 4) = NO");
        holds("3: BAD: y", "board(3, 3) = 9; walls(-1, 0) = BAD; walls(3, 0) = BAD; walls(10, 0) = BAD; walls(MIN, 0) = BAD; walls(MAX, 0) = BAD; walls(0, 7) = 7; walls(2, 7) = 7");
        holds("3: BAD: other bits", """
            board(3, 3) = 9; walls(1, 5) = 5; walls(1, 8) = BAD; walls(1, 15) = BAD; walls(1, 4096) = BAD; walls(1, -1) = BAD; walls(1, MIN) = BAD; walls(1, MAX) = BAD
            walls(1, -8) = BAD; count(4) = 2; board(12, 10) = 120; walls(9, 4096) = BAD; walls(9, 8191) = BAD; walls(9, 4095) = 4095
            """);
        holds("3: BAD ahead of NO", "board(3, 3) = 9; piece(DOT) = 0; put(0, 1, 1) = 1; walls(1, 2) = NO; walls(1, 10) = BAD; walls(1, -1) = BAD; walls(1, MAX) = BAD; put(0, 1, 3) = 1; walls(3, 2) = BAD");
        holds("3: refused, the row stays", "board(3, 1) = 3; piece(DOT) = 0; piece(DOT) = 1; walls(0, 1) = 1; put(0, 1, 0) = 1; walls(0, 6) = NO; stands(1, 0, 0) = 0; stands(1, 2, 0) = 1; walls(0, 8) = BAD; stands(1, 0, 0) = 0; count(4) = 1");
    }

    private static void piece() {
        holds("4: the least shape and the greatest", "piece(1) = 0; piece(33554431) = 1; about(0, 0) = 1; about(1, 0) = 25");
        holds("4: no square", "piece(0) = BAD; count(2) = 0");
        holds("4: bit 25", "piece(33554432) = BAD; piece(33554433) = BAD; piece(67108863) = BAD; count(2) = 0; piece(16777216) = 0");
        holds("4: bits below 0 and far", "piece(-1) = BAD; piece(MIN) = BAD; piece(MAX) = BAD; piece(-33554431) = BAD; piece(1073741824) = BAD; count(2) = 0");
        holds("4: BAD takes no number", "piece(DOT) = 0; piece(0) = BAD; piece(33554432) = BAD; piece(DOT) = 1");
        holds("4: FULL: 8", EIGHT + "piece(1) = FULL; piece(33554431) = FULL; count(2) = 8; about(7, 6) = RING; about(0, 6) = DOT");
        holds("4: BAD ahead of FULL", EIGHT + "piece(0) = BAD; piece(33554432) = BAD; piece(-1) = BAD; piece(MIN) = BAD; piece(MAX) = BAD; piece(1) = FULL");
        holds("4: FULL on every later board", EIGHT + "board(3, 3) = 9; count(2) = 8; piece(1) = FULL");
    }

    private static void about() {
        holds("5: what is 0 to 7", """
            board(3, 3) = 9; piece(CORNER) = 0; put(0, 1, 2) = 1; about(0, 0) = 3; about(0, 1) = 2; about(0, 2) = 2; about(0, 3) = 1; about(0, 4) = 2
            about(0, 5) = 1; about(0, 6) = CORNER; about(0, 7) = 0; about(0, -1) = BAD; about(0, 8) = BAD; about(0, MIN) = BAD; about(0, MAX) = BAD
            """);
        holds("5: away: -100, 0, 0", "piece(CORNER) = 0; about(0, 0) = 3; about(0, 1) = 2; about(0, 2) = 2; about(0, 3) = -100; about(0, 4) = -100; about(0, 5) = 0; about(0, 6) = CORNER; about(0, 7) = 0");
        holds("5: away again", "piece(DOT) = 0; put(0, 5, 6) = 1; about(0, 3) = 5; away(0) = 1; about(0, 3) = -100; about(0, 4) = -100; about(0, 5) = 0; about(0, 7) = 0");
        holds("5: BAD for one that is away too", "piece(DOT) = 0; about(0, -1) = BAD; about(0, 8) = BAD; about(1, 3) = BAD; about(1, 8) = BAD");
        holds("5: x, y below 0 are told as they are", "piece(DOT) = 0; put(0, -1, -4) = 1; about(0, 3) = -1; about(0, 4) = -4");
        holds("5: one column, one row; five of each", "piece(DOT) = 0; about(0, 1) = 1; about(0, 2) = 1; piece(FAR) = 1; about(1, 1) = 5; about(1, 2) = 5; piece(BAR) = 2; about(2, 1) = 5; about(2, 2) = 1; piece(TOWER) = 3; about(3, 1) = 1; about(3, 2) = 5");
    }

    private static void put() {
        holds("6: NO leaves it where it lay", "board(2, 1) = 2; piece(DOT) = 0; walls(0, 2) = 2; put(0, 0, 0) = 1; put(0, 1, 0) = NO; about(0, 3) = 0; about(0, 5) = 1");
        holds("6: NO leaves it away", "board(2, 1) = 2; piece(DOT) = 0; walls(0, 2) = 2; put(0, 1, 0) = NO; about(0, 5) = 0; about(0, 3) = -100; count(3) = 0");
        holds("6: where it lies it can be put again", "piece(DOT) = 0; put(0, 0, 0) = 1; put(0, 0, 0) = 1; count(3) = 1");
        holds("6: it needs no way there", "board(3, 3) = 9; piece(DOT) = 0; walls(0, 7) = 7; walls(1, 5) = 5; walls(2, 7) = 7; put(0, 1, 1) = 1; put(0, 8, 8) = 1; put(0, 1, 1) = 1");
        holds("6: BAD ahead of NO", """
            piece(DOT) = 0; piece(WHOLE) = 1; put(1, 10, 10) = 1; put(0, 13, 13) = NO; put(0, 14, 13) = BAD; put(0, 13, 14) = BAD; put(0, 14, 14) = BAD
            put(2, 13, 13) = BAD; about(0, 5) = 0
            """);
    }

    private static void away() {
        holds("7: 1; 0: it was", "piece(DOT) = 0; away(0) = 0; put(0, 0, 0) = 1; away(0) = 1; away(0) = 0; put(0, 0, 0) = 1; board(1, 1) = 1; away(0) = 0");
        holds("7: the others stay", "piece(DOT) = 0; piece(DOT) = 1; put(0, 0, 0) = 1; put(1, 1, 1) = 1; away(0) = 1; about(1, 5) = 1; about(1, 3) = 1; count(3) = 1; count(2) = 2");
        holds("7: BAD", "piece(DOT) = 0; put(0, 0, 0) = 1; away(1) = BAD; away(-1) = BAD; away(8) = BAD; away(32) = BAD; away(MIN) = BAD; away(MAX) = BAD; count(3) = 1");
    }

    private static void stands() {
        holds("8: the ends of the places", "piece(WHOLE) = 0; stands(0, -6, -6) = 1; stands(0, 13, 13) = 1; stands(0, -7, 0) = BAD; stands(0, 14, 0) = BAD; stands(0, 0, -7) = BAD; stands(0, 0, 14) = BAD");
        holds("8: BAD, though another piece lies there", "piece(DOT) = 0; piece(WHOLE) = 1; put(1, 10, 10) = 1; stands(0, 13, 13) = 0; stands(0, 14, 13) = BAD; stands(0, 13, 14) = BAD");
        holds("8: of one that is away, and of one that lies", "board(1, 1) = 1; piece(DOT) = 0; stands(0, 0, 0) = 1; put(0, 5, 5) = 1; stands(0, 0, 0) = 1; about(0, 3) = 5; walls(0, 1) = 1; stands(0, 0, 0) = 0");
    }

    private static void slide() {
        String lain = "board(5, 5) = 25; piece(DOT) = 0; piece(DOT) = 1; put(0, 2, 2) = 1;";
        for (String d : new String[] {"-1", "4", "MIN", "MAX"}) {
            holds("9: a direction is 0 to 3", lain + "slide(0, " + d + ", 1) = BAD; slide(1, " + d + ", 1) = BAD; blocks(0, " + d + ") = BAD; blocks(1, " + d
                + ") = BAD; order(" + d + ", 0) = BAD; order(" + d + ", -1) = BAD; order(" + d + ", 8) = BAD");
        }
        holds("9: NO: it is away", lain + "slide(1, 0, 1) = NO; slide(1, 3, 20) = NO; about(1, 5) = 0; away(0) = 1; slide(0, 0, 1) = NO");
        holds("9: BAD ahead of NO", lain + "slide(1, 4, 1) = BAD; slide(1, -1, 1) = BAD; slide(1, 0, 0) = BAD; slide(1, 0, 21) = BAD; slide(2, 0, 1) = BAD; slide(2, 4, 0) = BAD");
        holds("9: n at most", lain + "slide(0, 0, 1) = 1; slide(0, 0, 2) = 2; about(0, 3) = 5; slide(0, 0, 20) = 8; about(0, 3) = 13; slide(0, 0, 20) = 0");
        holds("9: before a wall, before a piece", lain + "walls(2, 16) = 16; put(1, 2, 4) = 1; slide(0, 0, 20) = 1; about(0, 3) = 3; slide(0, 2, 1) = 1; slide(0, 1, 20) = 1; about(0, 4) = 3; slide(0, 1, 1) = 0");
        holds("9: it passes no wall to what is free behind it", "board(3, 1) = 3; piece(DOT) = 0; walls(0, 2) = 2; put(0, 0, 0) = 1; slide(0, 0, 20) = 0; about(0, 3) = 0");
        holds("9: refused, it stays", lain + "slide(0, 0, 21) = BAD; slide(0, 0, 0) = BAD; slide(0, 4, 1) = BAD; about(0, 3) = 2; about(0, 4) = 2");
    }

    private static void way() {
        String lain = "board(3, 3) = 9; piece(DOT) = 0; piece(DOT) = 1; walls(0, 1) = 1; put(0, 1, 1) = 1;";
        holds("10: NO: it is away", lain + "way(1, 2, 2) = NO; away(0) = 1; way(0, 1, 1) = NO; way(0, 2, 2) = NO");
        holds("10: BAD ahead of NO", lain + "way(1, 14, 0) = BAD; way(1, 0, -7) = BAD; way(2, 1, 1) = BAD");
        holds("10: NO ahead of NONE", lain + "way(1, 0, 0) = NO; way(1, 1, 1) = NO; way(0, 0, 0) = NONE");
        holds("10: BAD ahead of NONE", "piece(DOT) = 0; piece(WHOLE) = 1; put(0, 0, 0) = 1; put(1, 10, 10) = 1; way(0, 13, 13) = NONE; way(0, 14, 13) = BAD; way(0, 13, 14) = BAD; way(0, -7, -7) = BAD");
        holds("10: nothing moves", lain + "way(0, 2, 2) = 2; about(0, 3) = 1; about(0, 4) = 1; way(0, 2, 2) = 2");
        holds("10: its own squares are not in its way", "board(3, 1) = 3; piece(PAIR) = 0; put(0, 0, 0) = 1; way(0, 1, 0) = 1; stepOf(0) = 0; way(0, 0, 1) = 1; stepOf(0) = 1");
        holds("10: all of it has to go through", "board(3, 3) = 9; piece(DOT) = 0; piece(PAIR) = 1; walls(1, 5) = 5; put(0, 1, 0) = 1; way(0, 1, 2) = 2; away(0) = 1; put(1, 1, 0) = 1; way(1, 1, 2) = 6; stepOf(0) = 0; stepOf(1) = 0; stepOf(2) = 1");
    }

    private static void stepOf() {
        String told = "board(5, 5) = 25; piece(DOT) = 0; piece(DOT) = 1; put(0, 1, 1) = 1; way(0, 2, 2) = 2;";
        holds("11: BAD: i below 0", told + "stepOf(-1) = BAD; stepOf(MIN) = BAD; stepOf(0) = 0");
        holds("11: NONE beyond the last step", told + "stepOf(1) = 1; stepOf(2) = NONE; stepOf(3) = NONE; stepOf(400) = NONE; stepOf(MAX) = NONE");
        holds("11: NONE, BAD when none was told", "stepOf(0) = NONE; stepOf(MAX) = NONE; stepOf(-1) = BAD; stepOf(MIN) = BAD");
        holds("11: the latest way: a shorter one leaves none of the longer one", told + "way(0, 0, 1) = 1; stepOf(0) = 2; stepOf(1) = NONE; way(0, 1, 1) = 0; stepOf(0) = NONE");
        holds("11: of whichever piece", told + "put(1, 4, 4) = 1; way(1, 4, 3) = 1; stepOf(0) = 3; stepOf(1) = NONE");
        holds("11: BAD and NO tell no way", told + "way(0, 14, 0) = BAD; way(1, 0, 0) = NO; way(2, 0, 0) = BAD; stepOf(0) = 0; stepOf(1) = 1; stepOf(2) = NONE");
        holds("11: NONE tells no way", told + "walls(4, 1) = 1; way(0, 0, 4) = NONE; stepOf(0) = 0; stepOf(1) = 1; stepOf(2) = NONE");
        holds("11: what moves later does not change it", told + "slide(0, 0, 1) = 1; away(0) = 1; put(1, 1, 1) = 1; walls(0, 31) = 31; piece(DOT) = 2; stepOf(0) = 0; stepOf(1) = 1; stepOf(2) = NONE");
        holds("11: on this board", told + "board(5, 5) = 25; stepOf(0) = NONE; stepOf(1) = NONE; stepOf(-1) = BAD; put(0, 1, 1) = 1; way(0, 1, 0) = 1; stepOf(0) = 3");
    }

    private static void out() {
        holds("12: 0: it is", "board(2, 2) = 4; piece(BLOCK) = 0; put(0, 2, 0) = 1; out(0) = 0; put(0, -2, 0) = 1; out(0) = 0; put(0, 13, 13) = 1; out(0) = 0; put(0, 1, 0) = 1; out(0) = 1; put(0, 0, 0) = 1; out(0) = 2");
        holds("12: the nearest side", "board(9, 9) = 81; piece(DOT) = 0; put(0, 4, 4) = 1; out(0) = 5; put(0, 3, 4) = 1; out(0) = 4; put(0, 6, 4) = 1; out(0) = 3; put(0, 4, 1) = 1; out(0) = 2; put(0, 4, 8) = 1; out(0) = 1");
        holds("12: NONE", "board(3, 3) = 9; piece(DOT) = 0; put(0, 1, 1) = 1; walls(0, 2) = 2; walls(1, 5) = 5; out(0) = 2; walls(2, 2) = 2; out(0) = NONE");
        holds("12: NO: it is away", "piece(DOT) = 0; out(0) = NO; put(0, 0, 0) = 1; out(0) = 1; away(0) = 1; out(0) = NO; out(1) = BAD");
        holds("12: NO ahead of NONE, BAD ahead of both", "piece(DOT) = 0; walls(0, 1) = 1; out(0) = NO; out(1) = BAD; walls(0, 0) = 0; put(0, 0, 0) = 1; piece(RING) = 1; put(1, -1, -1) = 1; out(0) = NONE; away(0) = 1; out(0) = NO; out(2) = BAD");
        holds("12: what lies around the board is in its way", "piece(DOT) = 0; piece(RING) = 1; put(0, 0, 0) = 1; put(1, -1, -1) = 1; out(0) = NONE; out(1) = 0; put(1, 0, 1) = 1; out(0) = 1");
        holds("12: it may stand where it has a hole on the board", "piece(RING) = 0; put(0, -1, -1) = 1; out(0) = 0; put(0, 0, 0) = 1; out(0) = 1; put(0, -1, 0) = 1; out(0) = 1");
        holds("12: nothing moves, no way is told", "board(5, 5) = 25; piece(DOT) = 0; put(0, 2, 2) = 1; out(0) = 3; about(0, 3) = 2; about(0, 4) = 2; stepOf(0) = NONE");
        holds("12: from the middle of the greatest board", "board(12, 10) = 120; piece(DOT) = 0; put(0, 5, 4) = 1; out(0) = 5; put(0, 5, 5) = 1; out(0) = 5; put(0, 0, 5) = 1; out(0) = 1");
    }

    private static void places() {
        holds("13: what is 0 or 1", "piece(DOT) = 0; places(0, 0) = 1; places(0, 1) = 0; places(0, -1) = BAD; places(0, 2) = BAD; places(0, MIN) = BAD; places(0, MAX) = BAD; places(1, 0) = BAD; places(1, 2) = BAD");
        holds("13: all of it on the board: as large as the board, larger", "board(5, 5) = 25; piece(WHOLE) = 0; places(0, 0) = 1; board(5, 4) = 20; places(0, 0) = 0; board(4, 5) = 20; places(0, 0) = 0; board(6, 7) = 42; places(0, 0) = 6; board(12, 10) = 120; places(0, 0) = 48");
        holds("13: squares alone count, not what is between them", "board(5, 1) = 5; piece(ENDS) = 0; places(0, 0) = 1; walls(0, 14) = 14; places(0, 0) = 1; walls(0, 16) = 16; places(0, 0) = 0");
        holds("13: where it lies counts; so does one that is away", "board(3, 3) = 9; piece(DOT) = 0; piece(DOT) = 1; places(0, 0) = 9; put(0, 1, 1) = 1; places(0, 0) = 9; places(1, 0) = 8; put(1, 5, 5) = 1; places(1, 0) = 8; places(0, 0) = 9");
        holds("13: walls on all squares", "board(2, 2) = 4; piece(DOT) = 0; walls(0, 3) = 3; walls(1, 3) = 3; places(0, 0) = 0; places(0, 1) = 0");
    }

    private static void blocks() {
        holds("14: NO: it is away; BAD ahead of NO", "piece(DOT) = 0; blocks(0, 0) = NO; blocks(0, 3) = NO; blocks(0, 4) = BAD; blocks(0, -1) = BAD; blocks(1, 0) = BAD; put(0, 0, 0) = 1; blocks(0, 0) = 0; away(0) = 1; blocks(0, 0) = NO");
        holds("14: one that is away blocks none", "piece(DOT) = 0; piece(DOT) = 1; put(0, 0, 0) = 1; put(1, 1, 0) = 1; blocks(0, 0) = 2; away(1) = 1; blocks(0, 0) = 0");
        holds("14: no piece blocks itself", "piece(ENDS) = 0; piece(1048577) = 1; put(0, 0, 0) = 1; blocks(0, 0) = 0; blocks(0, 2) = 0; put(1, 9, 0) = 1; blocks(1, 1) = 0; blocks(1, 3) = 0");
    }

    private static void order() {
        String two = "piece(DOT) = 0; piece(DOT) = 1; put(0, 0, 0) = 1; put(1, 1, 0) = 1;";
        holds("15: a direction is 0 to 3", two + "order(0, 0) = 1; order(1, 0) = 0; order(2, 0) = 0; order(3, 0) = 0; order(-1, 0) = BAD; order(4, 0) = BAD; order(MIN, 0) = BAD; order(MAX, 0) = BAD");
        holds("15: i is -1 at least", two + "order(0, -1) = 0; order(0, -2) = BAD; order(0, MIN) = BAD; order(4, -2) = BAD");
        holds("15: NONE beyond the last one", two + "order(0, 1) = 0; order(0, 2) = NONE; order(0, 7) = NONE; order(0, 8) = NONE; order(0, MAX) = NONE");
        holds("15: BAD ahead of NONE", "order(4, 0) = BAD; order(-1, 5) = BAD; order(0, 0) = NONE; order(0, -2) = BAD");
    }

    private static void apart() {
        holds("16: i is -1 at least", "apart(-1) = 0; apart(-2) = BAD; apart(MIN) = BAD; piece(DOT) = 0; put(0, 0, 0) = 1; apart(-2) = BAD; apart(-1) = 0; apart(0) = 0");
        holds("16: NONE beyond the last one", "piece(DOT) = 0; put(0, 0, 0) = 1; apart(0) = 0; apart(1) = NONE; apart(7) = NONE; apart(8) = NONE; apart(MAX) = NONE");
    }

    private static void push() {
        String three = "piece(DOT) = 0; piece(BLOCK) = 1; piece(SLANT) = 2;";
        holds("17: what is 0 or 1", three + "push(1, 0, 0) = 0; push(1, 0, 1) = 1; push(0, 1, -1) = -1000; push(0, 1, 2) = -1000; push(0, 1, MIN) = -1000; push(0, 1, MAX) = -1000");
        holds("17: BAD (a is b, too) answers -1000", three + "push(0, 0, 0) = -1000; push(1, 1, 1) = -1000; push(2, 2, 0) = -1000; push(3, 3, 0) = -1000; push(0, 3, 0) = -1000; push(3, 0, 1) = -1000; push(-1, 0, 0) = -1000; push(0, -1, 1) = -1000");
        holds("17: -1 is an answer", three + "push(0, 1, 0) = -1; push(0, 1, 1) = 0");
    }

    private static void count() {
        holds("20: what is 0 to 4", """
            board(3, 2) = 6; piece(DOT) = 0; piece(DOT) = 1; piece(DOT) = 2; piece(DOT) = 3; put(3, 9, 9) = 1; walls(1, 5) = 5
            count(0) = 3; count(1) = 2; count(2) = 4; count(3) = 1; count(4) = 2; count(-1) = BAD; count(5) = BAD; count(MIN) = BAD; count(MAX) = BAD
            """);
        holds("20: all eight lie, all squares are walls", EIGHT + """
            put(0, -6, 0) = 1; put(1, -6, 1) = 1; put(2, -6, 2) = 1; put(3, -6, 4) = 1; put(4, -6, 6) = 1; put(5, -6, 8) = 1; put(6, -6, 9) = 1; put(7, -5, 9) = 1
            count(3) = 8; count(2) = 8; walls(0, 1) = 1; count(4) = 1; away(7) = 1; count(3) = 7; walls(0, 0) = 0; count(4) = 0
            """);
        StringBuilder all = new StringBuilder("board(12, 10) = 120;");
        for (int y = 0; y < 10; y++) {
            all.append("walls(" + y + ", 4095) = 4095; count(4) = " + 12 * (y + 1) + ";");
        }
        holds("20: a hundred and twenty walls", all + "piece(DOT) = 0; places(0, 0) = 0; board(12, 10) = 120; count(4) = 0");
    }

    private static void asksOnly() {
        holds("Calls that ask change nothing, with all that can lie", EIGHT + """
            board(4, 4) = 16; walls(0, 1) = 1; put(0, 2, 2) = 1; put(1, 8, 8) = 1; put(2, 6, 2) = 1; put(3, -6, 3) = 1
            put(4, -5, 9) = 1; put(5, 13, 13) = 1; put(6, 11, 7) = 1; way(0, 3, 3) = 2
            about(0, 7) = 0; stands(7, 1, 1) = 1; out(0) = 2; places(7, 0) = 1; places(7, 1) = 2; blocks(0, 0) = 4; order(0, -1) = 0
            apart(-1) = 0; push(7, 4, 0) = 0; push(7, 4, 1) = 2; strip(12, 5, 18056, 5) = 6; best(12, 31, 1) = 18056; count(3) = 7
            stepOf(0) = 0; stepOf(1) = 1; stepOf(2) = NONE
            """);
    }

    /** Calls at the far end of an object's use are answered as the first ones. */
    private static void lastCall() {
        sentences++;
        GapPieces g = new GapPieces();
        int asked = 0;
        for (int p = 0; p < 8; p++, asked++) {
            same("piece", g.piece(1), p);
        }
        for (; asked < MOST_CALLS - 4; asked++) {
            int p = asked % 8;
            same("put of call " + asked, g.put(p, asked % 13, p), 1);
        }
        same("way near the last call", g.way(0, 13, 13), 13 - g.about(0, 3) + 13);
        same("best order near the last call", g.best(1, 31, 1), 18056);
        same("the last call", g.count(3), 8);
    }

    private static void same(String what, int got, int want) {
        answers++;
        if (got != want) {
            wrong++;
            System.out.println("At most 512 calls: " + what + " answered " + got + ", due is " + want);
        }
    }
}
