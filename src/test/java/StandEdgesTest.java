/** Promises 9 to 19, sections 1 and 2, 'Terms': each sentence that names a boundary case. */
public final class StandEdgesTest {
    private static final String KINGS = "board(17 . . . ./-/-/-/. . . . 1)";
    private static final int[][] WAY = {
        {-1, 0}, {-1, 1}, {0, 1}, {1, 1}, {1, 0}, {1, -1}, {0, -1}, {-1, -1}, {-2, 1}, {-2, -1}};

    public static void main(String[] args) {
        waysEndWhereTheBoardEnds();
        raisedByStepsOrRuns();
        takenMen();
        zones();
        menThatCannotBeRaised();
        menThatCouldNotGoOn();
        handsThatAreUsedUp();
        firstMark();
        marksAtFirst();
        secondMark();
        standRefusals();
        itemsThatAreBad();
        kings();
        clearCalls();
        asksOfTheStand();
        moveCalls();
        raisedMovesInOrder();
        whyInOrder();
        whySetInOrder();
        rowsCalls();
        Due.end();
    }

    /** A man alone on every FIELD of every BOARD, with one way: it ends at the edge, and comes in nowhere else. */
    private static void waysEndWhereTheBoardEnds() {
        for (int n = 5; n <= 7; n++) {
            for (int f = 0; f < n * n; f++) {
                for (int side = 0; side < 2; side++) {
                    for (int bit = 0; bit < 10; bit++) {
                        wayIs(n, f, side, bit, false);
                        if (bit < 8) wayIs(n, f, side, bit, true);
                    }
                }
            }
        }
    }

    private static void wayIs(int n, int from, int side, int bit, boolean runs) {
        boolean[] due = new boolean[n * n];
        int turn = side == 0 ? 1 : -1;
        for (int times = 1; times <= (runs ? n : 1); times++) {
            int row = from / n + turn * times * WAY[bit][0];
            int column = from % n + turn * times * WAY[bit][1];
            if (row >= 0 && row < n && column >= 0 && column < n) due[n * row + column] = true;
        }
        DropChase x = new DropChase(n);
        x.kind(0, 0, 0, 0, 0, 0);
        x.kind(3, runs ? 0 : 1 << bit, runs ? 1 << bit : 0, 0, 0, 0);
        for (int r = 0; r < n; r++) x.line(r, 0, n);
        x.put(from / n, 0, from % n, 4 + 16 * side);
        int kings = 0;
        for (int f = 0; f < n * n && kings < 2; f++) {
            if (f != from && !due[f]) x.put(f / n, 0, f % n, 1 + 16 * kings++);
        }
        Due.due(9, "stand", x.stand(side), 3);
        int wrong = 0;
        for (int f = 0; f < n * n; f++) if (x.attacks(side, f) != (due[f] ? 1 : 0)) wrong++;
        String of = (runs ? "RUN " : "STEP ") + bit + " of SIDE " + side + " from " + from + ", N " + n;
        Due.due(13, of + ": FIELDS that are ATTACKED and should not be, or not and should be", wrong, 0);
    }

    private static void raisedByStepsOrRuns() {
        String board = "board(17 . . . ./-/. . 12 . ./-/. . . . 1)";
        Edge.of(9, "It may be RAISED, if it has STEPS or RUNS for that: neither", board, "stand(0) = BAD",
            "kind(3, 1023, 255, 0, 0, 3) = 1", "stand(0) = BAD");
        Edge.of(9, "It may be RAISED, if it has STEPS or RUNS for that: STEPS", board, "kind(3, 0, 0, 512, 0, 0) = 1",
            "stand(0) = 3", "attacks(0, 1) = 1");
        Edge.of(9, "It may be RAISED, if it has STEPS or RUNS for that: RUNS", board, "kind(3, 0, 0, 0, 128, 0) = 1",
            "stand(1) = 3", "attacks(0, 6) = 1");
        Edge.of(17, "It may be RAISED, if it has STEPS or RUNS for that: as it goes",
            "board(. 5 . 6 7/-/. . . 17 ./-/. . . . 1)", "kind(3, 0, 0, 0, 255, 0) = 1", "kind(4, 16, 0, 0, 2, 0) = 1",
            "kind(5, 16, 0, 0, 0, 0) = 1", "kind(6, 16, 0, 2, 0, 0) = 1", "stand(0) = 5", "why(1, 6, true) = 0",
            "why(1, 6, false) = 0", "why(3, 8, true) = 4", "why(3, 8, false) = 0", "why(4, 9, true) = 0",
            "why(4, 9, false) = 0");
    }

    private static void takenMen() {
        Edge.of(20, "a MAN there is taken: one more of its KIND in the HAND (not RAISED there), above 9 too",
            "board(17 . . . ./-/. . 26 . ./. . 4 . ./. . . . 1)", "hand(0, 1, 9) = 0", "hand(1, 1, 9) = 0",
            "stand(0) = 4", "go(17-12) = 0", "has(0, 1) = 10", "has(1, 1) = 9", "go(0-1) = 0", "go(1*17) = 0",
            "field(17) = 2", "has(0, 1) = 9", "back() = 2", "has(0, 1) = 10", "back() = 1", "back() = 0",
            "has(0, 1) = 9", "field(12) = 26");
        Edge.of(17, "on which no MAN of its SIDE stands", "board(17 . . . ./-/. . 5 . 2/-/. . . . 1)", "stand(0) = 4",
            "why(12, 13, false) = 0", "why(12, 14, false) = 3", "why(12, 14, true) = 3", "clear() = 0",
            "put(2, 0, 4, 18) = 1", "stand(0) = 4", "why(12, 14, false) = 0", "go(12-14) = 0", "has(0, 1) = 1");
    }

    /** A man that goes a row to either side, RAISED or not, on each row. */
    private static void zones() {
        for (int n = 5; n <= 7; n++) {
            for (int side = 0; side < 2; side++) {
                for (int row = 0; row < n; row++) {
                    DropChase x = new DropChase(n);
                    x.kind(0, 0, 0, 0, 0, 0);
                    x.kind(4, 17, 0, 17, 0, 0);
                    for (int r = 0; r < n; r++) x.line(r, 1, n);
                    x.put(0, 1, 0, 17);
                    x.put(0, 1, n - 1, 1);
                    x.put(row, 1, 2, 5 + 16 * side);
                    Due.due(9, "stand", x.stand(side), 3);
                    if (row > 0) zoneIs(x, n, side, row, row - 1);
                    if (row < n - 1) zoneIs(x, n, side, row, row + 1);
                }
            }
        }
    }

    private static void zoneIs(DropChase x, int n, int side, int from, int to) {
        int deep = n == 5 ? 1 : 2;
        boolean can = side == 0 ? Math.min(from, to) < deep : Math.max(from, to) >= n - deep;
        String goes = "The ZONE, N " + n + ", SIDE " + side + ", from row " + from + " to " + to;
        Due.due(17, goes, x.why(n * from + 2, n * to + 2, true), can ? 0 : 4);
        Due.due(17, goes + ", as it is", x.why(n * from + 2, n * to + 2, false), 0);
        Due.due(16, goes, Due.numberOf(x, n * from + 2, n * to + 2, true) >= 0 ? 1 : 0, can ? 1 : 0);
    }

    private static void menThatCannotBeRaised() {
        Edge.of(17, "A MAN that is not RAISED, but may be, can be RAISED as it goes: one that is",
            "board(. 11 . . 17/-/-/-/. . . . 1)", "stand(1) = 3", "go(4-9) = 0", "why(1, 0, true) = 4",
            "why(1, 0, false) = 0");
        Edge.of(17, "A MAN that is not RAISED, but may be, can be RAISED as it goes: one that may not be",
            "board(1 4 . . 17/-/-/-/-)", "stand(1) = 3", "go(4-9) = 0", "why(1, 2, true) = 4", "why(1, 2, false) = 0",
            "why(0, 5, true) = 4", "why(0, 5, false) = 0");
    }

    private static void menThatCouldNotGoOn() {
        String sentence = "no MAN that is not RAISED then can stay as it is, if it could not go on";
        Edge.of(17, sentence + ": KIND 7, SIDE 0",
            "board(. . . . . . 17/-/. 8 . . . . ./. . 8 . . . ./. . . 8 . . ./-/. . . . . . 1)", "stand(0) = 5",
            "why(15, 2, false) = 5", "why(15, 2, true) = 0", "why(23, 10, false) = 5", "why(23, 10, true) = 0",
            "why(31, 18, false) = 0", "why(31, 18, true) = 4");
        Edge.of(17, sentence + ": KIND 7, SIDE 1",
            "board(17 . . . . . ./-/. 24 . . . . ./. . 24 . . . ./. . . 24 . . ./-/. . . . . . 1)", "stand(1) = 5",
            "why(31, 44, false) = 5", "why(31, 44, true) = 0", "why(23, 36, false) = 5", "why(23, 36, true) = 0",
            "why(15, 28, false) = 0", "why(15, 28, true) = 4");
        Edge.of(17, sentence + ", at a side of the BOARD too", "board(17 . . . ./-/. . . 4 ./-/1 . . . .)",
            "kind(3, 4, 0, 0, 0, 0) = 1", "stand(0) = 3", "why(13, 14, false) = 5", "why(13, 14, true) = 4",
            "moves() = 3");
        Edge.of(17, sentence + ": a RAISED one can", "board(17 . . . ./. . 7 15 ./-/-/. . . . 1)",
            "kind(6, 1, 0, 1, 0, 0) = 1", "stand(0) = 4", "why(8, 3, false) = 0", "why(7, 2, true) = 0",
            "why(7, 2, false) = 5");
        Edge.of(17, "on a BOARD that is empty else", "board(. 3 . 3 17/-/. . . . ./-/1 8 . . .)", "stand(0) = 5",
            "why(21, 12, false) = 0");
        Edge.of(18, "an empty FIELD, from which it could go on", "board(17 . . . ./. . 4 . ./-/-/. . . . 1)",
            "hand(0, 1, 1) = 0", "hand(0, 7, 1) = 0", "hand(0, 6, 1) = 0", "hand(0, 5, 1) = 0", "stand(0) = 3",
            "whySet(1, 12) = 0", "whySet(1, 4) = 3", "whySet(1, 9) = 0", "whySet(6, 4) = 3", "whySet(6, 9) = 0",
            "whySet(7, 4) = 3", "whySet(7, 9) = 3", "whySet(7, 10) = 0", "whySet(7, 14) = 0", "whySet(5, 4) = 0");
        Edge.of(18, "from which it could go on: SIDE 1", "board(17 . . . ./-/-/-/. . . . 1)", "hand(1, 1, 1) = 0",
            "hand(1, 7, 1) = 0", "stand(1) = 2", "whySet(1, 20) = 3", "whySet(1, 15) = 0", "whySet(7, 20) = 3",
            "whySet(7, 15) = 3", "whySet(7, 14) = 0", "whySet(1, 1) = 0");
        Edge.of(18, "from which it could go on: a KIND that goes nowhere", KINGS, "kind(3, 0, 0, 255, 0, 0) = 1",
            "hand(0, 3, 1) = 0", "stand(0) = 2", "whySet(3, 12) = 3", "moves() = 3");
    }

    private static void handsThatAreUsedUp() {
        Edge.of(18, "1 none in the HAND", KINGS, "hand(0, 2, 1) = 0", "hand(1, 3, 1) = 0", "stand(0) = 2",
            "whySet(2, 12) = 0", "whySet(3, 12) = 1", "go(2*12) = 0", "whySet(2, 13) = 1", "whySet(3, 13) = 0",
            "go(3*13) = 0", "whySet(2, 14) = 1", "has(0, 2) = 0", "back() = 1", "back() = 0", "whySet(2, 12) = 0");
    }

    private static void firstMark() {
        String sentence = "with MARK 1 not in a column in which such a MAN stands";
        Edge.of(18, sentence, "board(17 . . . ./. . . . ./2 . . . ./-/. . . . 1)", "hand(0, 1, 1) = 0", "stand(0) = 3",
            "whySet(1, 5) = 4", "whySet(1, 15) = 4", "whySet(1, 20) = 4", "whySet(1, 9) = 0", "whySet(1, 11) = 0",
            "whySet(1, 14) = 0", "whySet(1, 21) = 0");
        Edge.of(18, sentence + ": its SIDE and KIND, not RAISED", "board(17 . . . ./-/18 10 3 2 ./-/. . . . 1)",
            "hand(0, 1, 1) = 0", "stand(0) = 6", "whySet(1, 20) = 0", "whySet(1, 21) = 0", "whySet(1, 22) = 0",
            "whySet(1, 23) = 4", "whySet(1, 19) = 0");
        Edge.of(18, sentence + ": SIDE 1", "board(17 . . . ./-/2 26 19 18 ./-/. . . . 1)", "hand(1, 1, 1) = 0",
            "stand(1) = 6", "whySet(1, 5) = 0", "whySet(1, 6) = 0", "whySet(1, 7) = 0", "whySet(1, 8) = 4",
            "whySet(1, 9) = 0");
        Edge.of(18, sentence + ": on the first FIELD", "board(18 . . . 17/-/-/-/. . . . 1)", "hand(1, 1, 1) = 0",
            "stand(1) = 3", "whySet(1, 5) = 4", "whySet(1, 15) = 4", "whySet(1, 6) = 0");
        Edge.of(18, sentence + ": on the last FIELD", "board(17 . . . ./-/-/1 . . . ./. . . . 2)", "hand(0, 1, 1) = 0",
            "stand(0) = 3", "whySet(1, 9) = 4", "whySet(1, 19) = 4", "whySet(1, 8) = 0");
        for (int marks = 0; marks < 4; marks++) {
            Edge.of(18, sentence + ": MARKS " + marks, "board(17 . . . ./-/. . 6 . ./-/. . . . 1)",
                "kind(5, 1, 0, 0, 0, " + marks + ") = 1", "hand(0, 5, 1) = 0", "stand(0) = 3",
                "whySet(5, 17) = " + (marks % 2 == 1 ? 4 : 0), "whySet(5, 16) = 0");
        }
    }

    /** KINDS as at first, beside one of their own in the column, and where any CHECK is MATE at once. */
    private static void marksAtFirst() {
        for (int kind = 1; kind < 8; kind++) {
            Edge.of(18, "1: MARKS 3. All else 0: MARK 1 of KIND " + kind,
                "board(17 . . . ./-/-/. . " + (1 + kind) + " . ./. . . . 1)", "hand(0, " + kind + ", 1) = 0",
                "stand(0) = 3", "whySet(" + kind + ", 22) = " + (kind == 1 ? 4 : 0));
        }
        String mate = "board(17 . . . . ./. . 1 . . ./. 6 . . . ./-/-/-)";
        Edge.of(18, "1: MARKS 3. All else 0: MARK 2 of KIND 1", mate, "hand(0, 1, 1) = 0", "stand(0) = 3",
            "whySet(1, 6) = 6");
        for (String set : new String[] {"2*6", "3*6", "4*6", "5*7", "6*6"}) {
            Edge.of(18, "1: MARKS 3. All else 0: MARK 2, none for " + set, mate,
                "hand(0, " + set.charAt(0) + ", 1) = 0", "stand(0) = 3", "go(" + set + ") = 1", "check(1) = 1");
        }
    }

    private static void secondMark() {
        String mate = "board(17 . . . . ./. . 1 . . ./. 6 . . . ./-/-/-)";
        for (int marks = 0; marks < 4; marks++) {
            Edge.of(18, "with MARK 2 not, if that is MATE at once: MARKS " + marks, mate, "hand(0, 3, 1) = 0",
                "kind(3, 215, 0, 0, 0, " + marks + ") = 1", "stand(0) = 3", "whySet(3, 6) = " + (marks >= 2 ? 6 : 0),
                "whySet(3, 12) = 0");
        }
        Edge.of(18, "MATE: a SIDE is in CHECK and has no MOVE: no CHECK, so it is none",
            "board(17 20 . . ./20 20 . . ./-/-/. . . . 1)", "kind(3, 0, 0, 0, 0, 0) = 1", "hand(0, 1, 1) = 0",
            "stand(0) = 5", "whySet(1, 12) = 0", "go(1*12) = 1", "check(1) = 0", "moves() = 0");
        Edge.of(18, "MATE: a SIDE is in CHECK and has no MOVE: a MOVE, so it is none",
            "board(17 . . . . ./. . . . . ./. 6 1 . . ./-/-/-)", "hand(0, 1, 1) = 0", "stand(0) = 3",
            "whySet(1, 6) = 0", "go(1*6) = 0", "check(1) = 1");
        String column = "board(17 20 . . ./. 20 . . ./-/18 . . . ./. . . . 1)";
        for (int marks = 0; marks < 4; marks++) {
            Edge.of(18, "MATE: an answer that MARK 1 forbids is none: MARKS " + marks, column,
                "kind(3, 0, 0, 0, 0, 0) = 1", "kind(4, 0, 1, 0, 0, 2) = 1", "kind(1, 1, 0, 215, 0, " + marks + ") = 1",
                "hand(0, 4, 1) = 0", "hand(1, 1, 1) = 0", "stand(0) = 5",
                "whySet(4, 10) = " + (marks % 2 == 1 ? 6 : 0));
        }
    }

    private static void standRefusals() {
        Edge.of(9, "BAD: the SIDE", KINGS, "stand(-1) = BAD", "stand(2) = BAD", "stand(LEAST) = BAD",
            "stand(MOST) = BAD", "moves() = STATE", "stand(1) = 2", "play(0) = 1", "stand(2) = BAD", "clear() = 0",
            "stand(0) = 2", "play(0) = 0");
        Edge.of(9, "STATE: there is a STAND", KINGS, "stand(0) = 2", "line(1, 0, 2) = 2", "stand(0) = STATE",
            "stand(1) = STATE", "clear() = 0", "stand(0) = INDEX");
        Edge.of(9, "INDEX: some LINE that is not LOST has fewer than N items", KINGS, "line(2, 1, 4) = 4",
            "stand(0) = INDEX", "finding() = 2", "stand(2) = BAD", "moves() = STATE", "line(2, 1, 0) = 0",
            "stand(0) = INDEX", "lose(2) = 0", "line(4, 2, 4) = 4", "stand(0) = INDEX", "line(4, 2, 5) = 5",
            "put(4, 2, 4, 1) = 1", "stand(0) = 2");
        Edge.of(9, "fewer than N items, N being 7", "board(17 . . . . . ./-/-/-/-/-/. . . . . 1)", "stand(0) = INDEX",
            "line(6, 0, 7) = 7", "put(6, 0, 5, 1) = 1", "stand(0) = 2");
        Edge.of(9, "INDEX ahead of BAD items, KINGS, CHECK", "board(33 . . . ./. . . ./-/-/-)", "stand(0) = INDEX",
            "lose(1) = 4", "stand(0) = BAD");
        Edge.of(9, "a PLAY begins: how many MEN are on THE BOARD",
            "board(17 18 19 20 21/22 23 24 18 18/-/2 3 4 5 6/7 8 2 2 1)", "kind(7, 0, 0, 0, 0, 0) = 1",
            "stand(0) = 20", "play(2) = 0", "play(3) = 0", "play(4) = 1", "play(5) = 0");
    }

    private static void itemsThatAreBad() {
        int[][] bad = {{0, -1}, {0, 33}, {0, 127}, {0, -128}, {1, 33}, {1, 65535}, {1, 256 + 17}, {2, -1}, {2, 33},
            {2, 32767}, {2, -32768}, {2, 256 + 1}};
        for (int[] a : bad) {
            Edge.of(9, "BAD: an item that is none of 0 to 32", KINGS, "line(2, " + a[0] + ", 5) = 5",
                "put(2, " + a[0] + ", 4, " + a[1] + ") = 1", "stand(0) = BAD", "stand(1) = BAD", "moves() = STATE",
                "put(2, " + a[0] + ", 4, 0) = 1", "stand(0) = 2");
        }
        for (int item = 1; item <= 32; item++) {
            int kind = (item - 1) % 8;
            boolean raised = (item - 1) / 8 % 2 == 1;
            boolean fits = kind != 0 && !(raised && kind == 3);
            Edge.of(9, "or tells a RAISED one of a KIND that may not be; not just one KING",
                "board(17 . . . . . ./-/. . . . . 0 ./-/-/-/. . . . . . 1)", "kind(5, 170, 0, 85, 0, 0) = 1",
                "put(2, 0, 5, " + item + ") = 1", "stand(0) = " + (fits ? "3" : "BAD"),
                "field(19) = " + (fits ? "" + item : "BAD"));
        }
        Edge.of(9, "tells a RAISED one of a KIND that may not be: the KING instead of the one that is due",
            "board(25 . . . ./-/-/-/. . . . 1)", "stand(0) = BAD", "put(0, 0, 0, 17) = 1", "put(4, 0, 4, 9) = 1",
            "stand(0) = BAD", "put(4, 0, 4, 1) = 1", "stand(0) = 2");
    }

    private static void kings() {
        Edge.of(9, "a SIDE has not just one KING", "new(5)", "stand(0) = BAD", "line(0, 0, 5) = 5", "stand(0) = BAD",
            "put(0, 0, 0, 17) = 1", "stand(0) = BAD", "stand(1) = BAD", "put(0, 0, 4, 17) = 1", "stand(0) = BAD",
            "put(0, 0, 0, 1) = 1", "stand(0) = 2", "clear() = 0", "put(0, 0, 2, 1) = 1", "stand(0) = BAD",
            "put(0, 0, 2, 17) = 1", "stand(1) = BAD", "put(0, 0, 4, 0) = 1", "put(0, 0, 2, 0) = 1", "stand(0) = BAD");
        Edge.of(9, "the SIDE that is not to move is in CHECK", "board(17 . . . ./-/-/-/5 . . . 1)", "stand(0) = BAD",
            "moves() = STATE", "stand(1) = 3", "check(1) = 1", "clear() = 0", "put(4, 0, 0, 1) = 1",
            "put(4, 0, 4, 21) = 1", "stand(1) = BAD", "stand(0) = 3", "check(0) = 1");
        Edge.of(9, "in CHECK by the other KING", "board(17 . . . ./. 1 . . ./-/-/-)", "stand(0) = BAD",
            "stand(1) = BAD", "put(1, 0, 1, 0) = 1", "put(1, 0, 2, 1) = 1", "stand(0) = 2");
    }

    private static void clearCalls() {
        Edge.of(10, "STATE: there is none.", KINGS, "clear() = STATE", "stand(0) = 2", "clear() = 0", "clear() = STATE",
            "stand(2) = BAD", "clear() = STATE");
        Edge.of(10, "There is no STAND, no PLAY, no TREE any more", "board(. . . . 17/-/. 20 . 1 ./-/. 3 . . .)",
            "hand(0, 4, 1) = 0", "hand(1, 3, 1) = 0", "stand(0) = 4", "hunt(3) = 3", "tree() = 9", "go(21-15) = 0",
            "go(11-10) = 0", "back() = 1", "play(3) = 1", "clear() = 1", "tree() = 0", "node(0, 0) = BAD",
            "verify() = STATE", "play(2) = STATE", "forth() = STATE", "back() = STATE", "field(0) = BAD",
            "read() = STATE", "write() = STATE", "stand(0) = 4", "forth() = STATE", "back() = STATE", "play(2) = 0",
            "play(3) = 0", "tree() = 0", "verify() = STATE");
        Edge.of(10, "LINES stay, HANDS are as before stand()", "board(17 . . . ./-/-/. . 18 . ./. . 4 . 1)",
            "hand(0, 5, 2) = 0", "hand(1, 6, 1) = 0", "stand(0) = 4", "go(22-17) = 0", "has(0, 1) = 1", "go(6*2) = 0",
            "has(1, 6) = 0", "clear() = 2", "has(0, 1) = 0", "has(0, 5) = 2", "has(1, 6) = 1", "get(4, 0, 2) = 4",
            "get(3, 0, 2) = 18", "stand(0) = 4", "field(17) = 18", "has(1, 6) = 1");
    }

    private static void asksOfTheStand() {
        Edge.of(11, "BAD: no FIELD, no STAND.", KINGS, "field(0) = BAD", "field(-1) = BAD", "stand(0) = 2",
            "field(-1) = BAD", "field(25) = BAD", "field(LEAST) = BAD", "field(MOST) = BAD", "field(0) = 17",
            "field(24) = 1", "clear() = 0", "field(24) = BAD");
        Edge.of(12, "How many of a KIND are in the HAND (before stand() as told). BAD.", KINGS, "has(-1, 1) = BAD",
            "has(2, 1) = BAD", "has(0, 0) = BAD", "has(0, 8) = BAD", "has(0, -1) = BAD", "has(LEAST, 1) = BAD",
            "has(0, MOST) = BAD", "hand(1, 7, 4) = 0", "has(1, 7) = 4", "stand(1) = 2", "has(1, 7) = 4",
            "has(1, 8) = BAD", "has(2, 7) = BAD", "has(1, 0) = BAD", "go(7*2) = 0", "has(1, 7) = 3");
        Edge.of(13, "BAD; STATE: no STAND.", KINGS, "attacks(0, 24) = STATE", "attacks(2, 0) = BAD",
            "attacks(0, 25) = BAD", "stand(0) = 2", "attacks(-1, 0) = BAD", "attacks(2, 0) = BAD",
            "attacks(0, -1) = BAD", "attacks(0, 25) = BAD", "attacks(0, MOST) = BAD", "attacks(LEAST, 0) = BAD",
            "attacks(0, 23) = 1", "attacks(0, 24) = 0", "attacks(1, 0) = 0", "attacks(1, 1) = 1");
        Edge.of(14, "BAD; STATE: no STAND.", "board(17 . . . ./-/-/-/5 . . . 1)", "check(0) = STATE",
            "check(2) = BAD", "stand(1) = 3", "check(-1) = BAD", "check(2) = BAD", "check(MOST) = BAD",
            "check(LEAST) = BAD", "check(0) = 0", "check(1) = 1");
        Edge.of(13, "RUNS: over empty FIELDS, up to the first that is not",
            "board(. 17 . . ./-/5 . 2 . ./. . . . ./18 . . . 1)", "stand(0) = 5", "attacks(0, 11) = 1",
            "attacks(0, 12) = 1", "attacks(0, 13) = 0", "attacks(0, 20) = 1", "attacks(0, 0) = 1",
            "attacks(0, 10) = 0");
    }

    private static void moveCalls() {
        Edge.of(15, "STATE: no STAND.", KINGS, "moves() = STATE", "stand(0) = 2", "moves() = 3", "clear() = 0",
            "moves() = STATE");
        Edge.of(16, "STATE: no STAND (ahead); BAD.", KINGS, "move(0, 0) = STATE", "move(-1, 0) = STATE",
            "move(0, 9) = STATE", "stand(0) = 2", "move(-1, 0) = BAD", "move(3, 0) = BAD", "move(LEAST, 0) = BAD",
            "move(MOST, 0) = BAD", "move(0, -1) = BAD", "move(0, 5) = BAD", "move(0, MOST) = BAD", "move(2, 1) = 18",
            "move(2, 4) = NONE");
        Edge.of(16, "no MOVE at all", "board(17 20 . . ./20 20 . . ./-/-/. . . . 1)", "kind(3, 0, 0, 0, 0, 0) = 1",
            "stand(1) = 5", "moves() = 0", "move(0, 0) = BAD", "play(1) = 1", "rows(1) = 0", "rows(2) = 0",
            "rows(3) = 0", "go(0) = BAD", "hunt(4) = 0");
        Edge.of(16, "0 from where (NONE: SETTING), 4 the KIND that it takes (NONE)",
            "board(1 . . . ./. 18 . . ./-/-/. . . . 17)", "hand(0, 3, 1) = 0", "stand(0) = 3", "move(0, 0) = 0",
            "move(0, 1) = 1", "move(0, 4) = NONE", "move(1, 1) = 6", "move(1, 4) = 1", "move(1, 3) = 0",
            "move(3, 0) = NONE", "move(3, 1) = 1", "move(3, 2) = 0", "move(3, 3) = 3", "move(3, 4) = NONE");
        Edge.of(16, "One that comes by two ways of a MAN to a FIELD is there once, where it comes first",
            "board(17 . . . ./-/-/-/5 . . . 1)", "kind(4, 4, 5, 0, 0, 0) = 1", "stand(1) = 3", "go(0-1) = 0",
            "move(0, 1) = 21", "move(1, 1) = 15", "move(4, 1) = 0", "move(5, 1) = 22", "move(6, 1) = 23",
            "move(7, 0) = 24");
    }

    /** RAISED ones that have STEPS and RUNS at first, in the middle of 7 rows: STEPS come ahead of all RUNS. */
    private static void raisedMovesInOrder() {
        int[][] due = {
            {18, 32, 30, 16, 17, 10, 3, 25, 26, 27, 31, 38, 45, 23, 22, 21},
            {17, 25, 31, 23, 18, 12, 6, 32, 40, 48, 30, 36, 42, 16, 8, 0}};
        for (int side = 0; side < 2; side++) {
            for (int kind = 4; kind < 6; kind++) {
                DropChase x = new DropChase(7);
                for (int r = 0; r < 7; r++) x.line(r, 2, 7);
                x.put(0, 2, 5, side == 0 ? 17 : 1);
                x.put(6, 2, 5, side == 0 ? 1 : 17);
                x.put(3, 2, 3, 9 + kind + 16 * side);
                Due.due(9, "stand", x.stand(side), 3);
                for (int i = 0; i < 16; i++) {
                    int to = due[kind - 4][i];
                    String call = "by its STEPS, then its RUNS: SIDE " + side + ", KIND " + kind + ", move(" + i + ")";
                    Due.due(16, call, x.move(i, 0), 24);
                    Due.due(16, call, x.move(i, 1), side == 0 ? to : 48 - to);
                }
            }
        }
    }

    private static void whyInOrder() {
        String pinned = "board(17 . . . ./21 . 2 . 1/. . . . 3/-/. . . . 21)";
        Edge.of(17, "BAD; STATE.", KINGS, "why(0, 1, false) = STATE", "why(-1, 1, false) = BAD",
            "why(0, 25, false) = BAD", "stand(0) = 2", "why(-1, 1, false) = BAD", "why(25, 1, false) = BAD",
            "why(24, -1, false) = BAD", "why(24, 25, true) = BAD", "why(LEAST, 1, false) = BAD",
            "why(24, MOST, false) = BAD", "why(24, 24, false) = 2", "why(24, 23, false) = 0");
        Edge.of(17, "0 it is one", pinned, "stand(0) = 6", "why(9, 3, false) = 0");
        Edge.of(17, "1 no MAN of the SIDE to move there", pinned, "stand(0) = 6", "why(12, 13, true) = 1",
            "why(0, 1, false) = 1", "why(0, 0, false) = 1", "why(5, 9, true) = 1");
        Edge.of(17, "2 it does not REACH it (ahead of 3, 4)", pinned, "stand(0) = 6", "why(7, 12, false) = 2",
            "why(7, 9, false) = 2", "why(7, 9, true) = 2", "why(7, 7, true) = 2", "why(9, 24, true) = 2");
        Edge.of(17, "3 a MAN of its SIDE stands there (ahead of 4)", pinned, "stand(0) = 6", "why(9, 14, false) = 3",
            "why(9, 14, true) = 3", "why(14, 9, false) = 3", "why(14, 9, true) = 3");
        Edge.of(17, "4 it cannot be RAISED so (ahead of 6)", pinned, "stand(0) = 6", "why(9, 8, true) = 4",
            "why(14, 8, true) = 4", "why(14, 8, false) = 6");
        Edge.of(17, "5 it cannot stay as it is (ahead of 6)", pinned, "stand(0) = 6", "why(7, 2, false) = 5",
            "why(7, 2, true) = 6");
        Edge.of(17, "6 CHECK", pinned, "stand(0) = 6", "why(9, 8, false) = 0", "why(14, 18, false) = 6",
            "why(14, 20, false) = 2", "go(9-8) = 0", "why(21, 22, false) = 1");
        Edge.of(17, "6 CHECK: beside the other KING, two FIELDS off", "board(17 . . . ./-/1 . . . ./-/-)",
            "stand(0) = 2", "why(10, 5, false) = 6", "why(10, 6, false) = 6", "why(10, 11, false) = 0");
    }

    private static void whySetInOrder() {
        String inCheck = "board(. 17 . . ./2 . . . ./. . . . 21/-/. . . . 1)";
        Edge.of(18, "BAD: KIND 1 .. 7, FIELD; STATE.", KINGS, "whySet(1, 12) = STATE", "whySet(0, 12) = BAD",
            "whySet(1, 25) = BAD", "hand(0, 1, 1) = 0", "hand(0, 7, 1) = 0", "stand(0) = 2", "whySet(0, 12) = BAD",
            "whySet(8, 12) = BAD", "whySet(-1, 12) = BAD", "whySet(LEAST, 12) = BAD", "whySet(MOST, 12) = BAD",
            "whySet(1, -1) = BAD", "whySet(1, 25) = BAD", "whySet(1, LEAST) = BAD", "whySet(1, MOST) = BAD",
            "whySet(1, 12) = 0", "whySet(7, 12) = 0");
        Edge.of(18, "1 none in the HAND (ahead of all)", inCheck, "stand(0) = 4", "whySet(1, 0) = 1",
            "whySet(1, 1) = 1", "whySet(1, 15) = 1", "whySet(1, 16) = 1");
        Edge.of(18, "2 the FIELD is not empty (ahead of 3, 4)", inCheck, "hand(0, 1, 1) = 0", "stand(0) = 4",
            "whySet(1, 1) = 2", "whySet(1, 5) = 2", "whySet(1, 24) = 2");
        Edge.of(18, "3 it could not go on (ahead of 4, 5)", inCheck, "hand(0, 1, 1) = 0", "stand(0) = 4",
            "whySet(1, 0) = 3", "whySet(1, 2) = 3");
        Edge.of(18, "4 MARK 1 (ahead of 5)", inCheck, "hand(0, 1, 1) = 0", "stand(0) = 4", "whySet(1, 15) = 4");
        Edge.of(18, "5 CHECK", inCheck, "hand(0, 1, 1) = 0", "stand(0) = 4", "whySet(1, 16) = 5", "whySet(1, 14) = 2",
            "whySet(1, 19) = 0", "whySet(1, 9) = 5");
        Edge.of(18, "5 CHECK (ahead of 6)", "board(17 . . . . ./. . 1 . . ./. 6 . . . ./-/-/. . 0 . . .)",
            "hand(0, 1, 1) = 0", "stand(0) = 3", "whySet(1, 6) = 6", "clear() = 0", "put(5, 0, 2, 21) = 1",
            "stand(0) = 4", "whySet(1, 6) = 5", "whySet(1, 14) = 0");
    }

    private static void rowsCalls() {
        Edge.of(19, "so many MOVES (1 to 3). BAD; STATE: no STAND", KINGS, "rows(1) = STATE", "rows(0) = BAD",
            "rows(4) = BAD", "stand(0) = 2", "rows(0) = BAD", "rows(4) = BAD", "rows(-1) = BAD", "rows(LEAST) = BAD",
            "rows(MOST) = BAD", "rows(1) = 3", "rows(2) = 9", "rows(3) = 53");
        Edge.of(19, "SPENT: more than 20000: that many", "board(17 . . . 23 . ./-/-/-/-/-/. . . . . . 1)",
            "kind(6, 0, 0, 0, 0, 0) = 1", "hand(0, 2, 1) = 0", "hand(0, 4, 1) = 0", "hand(0, 7, 1) = 0",
            "hand(1, 2, 1) = 0", "hand(1, 3, 1) = 0", "hand(1, 4, 1) = 0", "hand(1, 7, 1) = 0", "stand(0) = 3",
            "rows(2) = 20000", "rows(3) = SPENT", "rows(1) = 129", "play(2) = 0", "moves() = 129");
        Edge.of(19, "SPENT: more than 20000: one more",
            "board(17 . . . . . ./. . . . . 23 ./. . . . . . 7/-/-/-/. . . . . . 1)", "kind(6, 0, 0, 0, 0, 0) = 1",
            "hand(0, 2, 1) = 0", "hand(0, 4, 1) = 0", "hand(0, 7, 1) = 0", "hand(1, 2, 1) = 0", "hand(1, 3, 1) = 0",
            "hand(1, 4, 1) = 0", "hand(1, 5, 1) = 0", "stand(0) = 4", "rows(2) = SPENT");
        // The first MOVES of all but some have just 20000 MOVES behind them.
        Edge.of(19, "SPENT: more than 20000: that many, and then more",
            "board(-/-/-/-/17 . . . . . ./. . 1 . . . ./-)", "hand(0, 3, 1) = 0", "hand(0, 4, 1) = 0",
            "hand(0, 5, 1) = 0", "hand(0, 7, 1) = 0", "hand(1, 3, 1) = 0", "hand(1, 5, 1) = 0", "hand(1, 7, 1) = 0",
            "stand(0) = 2", "rows(2) = SPENT", "rows(3) = SPENT", "rows(1) = 180");
    }
}
