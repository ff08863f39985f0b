import java.util.List;

/** Promises 31 to 35, section 6: each sentence that names a boundary case. */
public final class TextEdgesTest {
    private static final String KINGS = "board(17 . . . ./-/-/-/. . . . 1)";
    private static final String[] DESK = {"board(17 . . . ./. . 2 . ./. . . . 20/. . . . 4/. . . . 1)",
        "hand(1, 2, 1) = 0", "stand(0) = 5"};
    private static final String ROUND = "e5e4 a1b1 e4e5 b1a1";

    public static void main(String[] args) {
        writeCalls();
        typeRefusals();
        wipeCalls();
        letters();
        readRefusals();
        nothingBetween();
        writtenOtherwise();
        columnsAndRows();
        movesThatAreNone();
        statesThatEndIt();
        manyMoves();
        thePlayStays();
        thePlayIsForgotten();
        mostBytes();
        Due.end();
    }

    private static void writeCalls() {
        Edge.of(31, "STATE: no STAND", KINGS, "text(abc)", "write() = STATE", "is(abc)", "stand(0) = 2", "clear() = 0",
            "write() = STATE", "is(abc)");
        Edge.of(31, "THE PLAY is written: one without MOVES", KINGS, "stand(0) = 2", "text(abc)", "write() = 0", "is()",
            "write() = 0");
        Edge.behind(DESK, 31, "THE PLAY is written: one MOVE, + if it is RAISED by that", "go(7-2+) = 0",
            "write() = 5", "is(c2c1+)", "back() = 0", "go(19-14) = 0", "write() = 4", "is(e4e3)");
        Edge.behind(DESK, 31, "parted by a byte 32", "go(7-2+) = 0", "go(2*5) = 0", "go(2-3) = 0", "write() = 15",
            "is(c2c1+ 2*a2 c1d1)", "letter(5) = 32", "letter(10) = 32", "back() = 2", "write() = 10",
            "is(c2c1+ 2*a2)", "forth() = 3", "write() = 15");
        Edge.of(31, "column (a to g) and row (1 to 7, row 0 being 1)",
            "board(1 . . . . . ./-/-/-/-/-/. . . . . . 17)", "hand(0, 7, 1) = 0", "hand(1, 1, 1) = 0", "stand(0) = 2",
            "go(0-7) = 0", "go(48-41) = 0", "go(7*42) = 0", "go(1*6) = 0", "write() = 19", "is(a1a2 g7g6 7*a7 1*g1)");
    }

    private static void typeRefusals() {
        Edge.of(32, "A byte (0 to 255). BAD", "new(5)", "type(-1) = BAD", "type(256) = BAD", "type(LEAST) = BAD",
            "type(MOST) = BAD", "letter(0) = NONE", "type(0) = 1", "type(255) = 2", "type(127) = 3", "type(128) = 4",
            "letter(0) = 0", "letter(1) = 255", "letter(2) = 127", "letter(3) = 128", "type(-1) = BAD",
            "type(256) = BAD", "wipe() = 4");
        Edge.behind(DESK, 32, "comes behind THE TEXT: also behind what was written", "go(19-14) = 0", "write() = 4",
            "type(43) = 5", "is(e4e3+)", "write() = 4", "is(e4e3)");
    }

    private static void wipeCalls() {
        Edge.of(33, "THE TEXT is empty: how many bytes it had.", "new(5)", "wipe() = 0", "type(1) = 1", "wipe() = 1",
            "wipe() = 0", "letter(0) = NONE", "type(2) = 1", "letter(0) = 2", "letter(1) = NONE");
    }

    private static void letters() {
        Edge.of(34, "Byte k of THE TEXT; NONE.", "new(5)", "letter(0) = NONE", "letter(-1) = NONE", "text(ab)",
            "letter(-1) = NONE", "letter(0) = 97", "letter(1) = 98", "letter(2) = NONE", "letter(LEAST) = NONE",
            "letter(MOST) = NONE", "letter(1999) = NONE", "letter(2000) = NONE");
    }

    private static void readRefusals() {
        Edge.of(35, "STATE: no STAND.", KINGS, "read() = STATE", "text(e5e4)", "read() = STATE", "stand(0) = 2",
            "read() = 1", "clear() = 1", "read() = STATE", "is(e5e4)");
        Edge.behind(DESK, 35, "An empty THE TEXT has none.", "read() = 0", "go(19-14) = 0", "go(0-1) = 0",
            "back() = 1", "read() = 0", "play(2) = 0", "play(3) = 0", "field(19) = 4", "play(0) = 0");
    }

    private static void nothingBetween() {
        String sentence = "the place where the first begins (or would, if there is nothing)";
        Edge.behind(DESK, 35, sentence + ": a 32 alone", "text( )", "read() = -100");
        Edge.behind(DESK, 35, sentence + ": ahead of the first 32", "text( e4e3)", "read() = -100");
        Edge.behind(DESK, 35, sentence + ": behind the last 32", "text(e4e3 )", "read() = -105", "play(2) = 0");
        Edge.behind(DESK, 35, sentence + ": behind the last 32 of two MOVES", "text(c2c1+ a1a2 )", "read() = -111");
        Edge.behind(DESK, 35, sentence + ": between two 32", "text(e4e3  a1b1)", "read() = -105");
        Edge.behind(DESK, 35, sentence + ": two 32 alone", "text(  )", "read() = -100");
        Edge.behind(DESK, 35, sentence + ": all is there", "text(e4e3 a1b1)", "read() = 2");
    }

    private static void writtenOtherwise() {
        String[] ill = {"e", "e4", "e4e", "e4e3 ", "e4e3e", "e4e33", "e4e3++", "e4-e3", "E4E3", "e4E3", "4e3e", "e4e3*",
            "e4e3 e", "e4*e3", "+e4e3", "e4e+", "4*e3", "**e3", "e*e3"};
        for (String s : ill) {
            int place = s.startsWith("e4e3 ") ? 5 : 0;
            Edge.behind(DESK, 35, "that is not written so: " + s, "text(" + s + ")", "read() = " + (-100 - place));
        }
        String[] stale = {"e4e", "e4", "e", "e4e3 a1b"};
        for (String s : stale) {
            Edge.behind(DESK, 35, "not written so, though it goes on as it was before wipe(): " + s,
                "text(e4e3 a1b1)", "read() = 2", "text(" + s + ")", "read() = " + (s.length() > 4 ? -105 : -100));
        }
        int[] others = {9, 10, 13, 0, 31, 33, 160, 255};
        for (int c : others) {
            Edge.behind(DESK, 35, "between two 32: byte " + c + " parts nothing", "text(e4e3)", "type(" + c + ") = 5",
                "type(97) = 6", "type(49) = 7", "type(98) = 8", "type(49) = 9", "read() = -100");
        }
        String[] illSet = {"2*a", "2*", "2", "*a2", "2a2", "2*a2+", "2*a22", "2*aa", "2*22", "2+a2", "2*A2", "0*a2",
            "8*a2", "9*a2", "b*a2", "/*a2", ":*a2", "22*a2"};
        for (String s : illSet) {
            Edge.behind(DESK, 35, "SETTING: the KIND (1 to 7), *, column, row: " + s, "text(c2c1+ " + s + ")",
                "read() = -106");
        }
        Edge.behind(DESK, 35, "SETTING: the KIND (1 to 7), *, column, row", "text(c2c1+ 2*a2)", "read() = 2");
    }

    private static void columnsAndRows() {
        for (int n = 5; n <= 7; n++) {
            char last = (char) ('a' + n - 1);
            char beyond = (char) (last + 1);
            String rows = "board(17 . . . ." + " .".repeat(n - 5) + "/-".repeat(n - 2) + "/. . . ."
                + " .".repeat(n - 5) + " 1)";
            String king = "" + last + n;
            Edge.of(35, "column (a to g) and row (1 to 7), N " + n, rows, "stand(0) = 2",
                "text(" + king + last + (n - 1) + " a1b1)", "read() = 2");
            Edge.of(35, "no such column, N " + n, rows, "stand(0) = 2", "text(" + king + beyond + n + ")",
                "read() = -100", "text(" + beyond + n + king + ")", "read() = -100", "text(`" + n + king + ")",
                "read() = -100", "text(" + king + "`" + n + ")", "read() = -100");
            Edge.of(35, "no such row, N " + n, rows, "stand(0) = 2", "text(" + king + last + (n + 1) + ")",
                "read() = -100", "text(" + last + (n + 1) + king + ")", "read() = -100",
                "text(" + last + 0 + king + ")", "read() = -100", "text(" + king + last + 0 + ")", "read() = -100");
        }
        String[] outside = {"f4c3", "`4c3", "a0c3", "a6c3", "a/c3", "@*c3", "c3f4", "7*f3", "7*c6", "7*c0", "7*`3"};
        for (String s : outside) {
            Edge.of(35, "no such FIELD, with each KIND in the HAND: " + s, KINGS, "hand(0, 7, 1) = 0",
                "hand(0, 1, 1) = 0", "hand(0, 6, 1) = 0", "stand(0) = 2", "text(" + s + ")", "read() = -100",
                "text(" + s + "+)", "read() = -100", "text(7*c3)", "read() = 1");
        }
        Edge.of(35, "a FIELD beside the BOARD is not the one that its number would be", KINGS, "stand(0) = 2",
            "text(e5f3)", "read() = -100", "text(e5e4 a1f1)", "read() = -105");
    }

    private static void movesThatAreNone() {
        String[] none = {"e4e2", "e4e5", "a1a2", "e5e4", "c3c4", "c2c1", "e4e3+", "e4e4", "2*a2", "3*a3"};
        for (String s : none) {
            Edge.behind(DESK, 35, "is no MOVE: " + s, "text(" + s + ")", "read() = -100");
        }
        Edge.behind(DESK, 35, "is no MOVE, the SIDE to move being the other one", "text(e4e3 e3e2)", "read() = -105",
            "text(e4e3 a1b1 e3e2)", "read() = 3");
        Edge.of(35, "is no MOVE: into CHECK", "board(17 . . . ./-/. . . . 21/-/. . . . 1)", "stand(0) = 3",
            "text(e5e4)", "read() = -100", "text(e5d5)", "read() = 1");
        Edge.of(35, "is no MOVE: it cannot stay as it is", "board(. . . . 17/2 . . . ./-/-/. . . . 1)", "stand(0) = 3",
            "text(a2a1)", "read() = -100", "text(a2a1+)", "read() = 1");
        Edge.of(35, "is no MOVE: MARK 2", "board(17 . . . . ./. . 1 . . ./. 6 . . . ./-/-/-)", "hand(0, 1, 1) = 0",
            "hand(0, 3, 1) = 0", "stand(0) = 3", "text(1*a2)", "read() = -100", "text(3*a2)", "read() = 1");
    }

    private static void statesThatEndIt() {
        Edge.of(35, "comes where the STATE is not 0: 1", "board(17 . . . . ./. . 1 . . ./. 6 . . . ./-/-/-)",
            "hand(0, 3, 1) = 0", "stand(0) = 3", "text(3*a2)", "read() = 1", "play(1) = 1", "text(3*a2 a1b1)",
            "read() = -105", "text(3*a2 )", "read() = -105", "play(2) = 1");
        Edge.of(35, "comes where the STATE is not 0: 1 from the beginning",
            "board(17 20 . . ./20 20 . . ./-/-/. . . . 1)", "kind(3, 0, 0, 0, 0, 0) = 1", "stand(1) = 5",
            "text(a1b1)", "read() = -100", "wipe() = 4", "read() = 0");
        Edge.of(35, "comes where the STATE is not 0: 2", KINGS, "stand(0) = 2",
            "text(" + ROUND + " " + ROUND + " " + ROUND + ")", "read() = 12", "play(1) = 2", "play(4) = 4",
            "text(" + ROUND + " " + ROUND + " " + ROUND + " e5e4)", "read() = -160", "play(2) = 12");
        Edge.of(35, "comes where the STATE is not 0: the third time is none", KINGS, "stand(0) = 2",
            "text(" + ROUND + " " + ROUND + " e5e4)", "read() = 9", "play(1) = 0");
        String checks = "b5a5 a1b1 a5b5 b1a1";
        Edge.of(35, "comes where the STATE is not 0: 3", "board(17 . . . ./-/-/-/. 5 . . 1)", "stand(0) = 3",
            "text(" + checks + " " + checks + " " + checks + ")", "read() = 12", "play(1) = 3",
            "type(32) = 60", "type(98) = 61", "type(53) = 62", "type(97) = 63", "type(53) = 64", "read() = -160");
    }

    /** 300 MOVES are written, the 301st is typed behind them. */
    private static void manyMoves() {
        List<Integer> moves = Walk.alwaysNew(Walk.beginning(), 300);
        DropChase x = Due.board("17 . . . . . ./-/-/-/-/-/. . . . . . 1");
        x.stand(0);
        for (int i : moves) x.go(i);
        int from = x.move(0, 0);
        int to = x.move(0, 1);
        String next = "" + (char) ('a' + from % 7) + (1 + from / 7) + (char) ('a' + to % 7) + (1 + to / 7);
        Edge.behind(Walk.steps(moves, 0), 35, "or as the 301st", "write() = 1499", "read() = 300", "play(2) = 300",
            "type(32) = 1500", "type(" + (int) next.charAt(0) + ") = 1501", "type(" + (int) next.charAt(1) + ") = 1502",
            "type(" + (int) next.charAt(2) + ") = 1503", "type(" + (int) next.charAt(3) + ") = 1504", "read() = -1600",
            "play(2) = 300", "back() = 299", "read() = -1600", "play(2) = 299", "play(3) = 1", "forth() = 300",
            "write() = 1499", "read() = 300");
    }

    private static void thePlayStays() {
        Edge.behind(DESK, 35, "THE PLAY stays: with what was gone back over", "go(19-14) = 0", "go(0-1) = 0",
            "go(7-2+) = 0", "back() = 2", "back() = 1", "text(c2c1+ a1a2 x)", "read() = -111", "play(2) = 1",
            "play(3) = 2", "play(0) = 1", "field(14) = 4", "field(7) = 2", "forth() = 2", "field(1) = 17",
            "forth() = 3", "field(2) = 10", "back() = 2", "back() = 1", "back() = 0", "field(19) = 4");
        Edge.of(35, "THE PLAY stays: at its end", KINGS, "stand(0) = 2",
            "text(" + ROUND + " " + ROUND + " " + ROUND + ")", "read() = 12", "text(x)", "read() = -100",
            "play(1) = 2", "play(4) = 4", "play(2) = 12", "go(0) = STATE", "back() = 11", "play(4) = 3");
    }

    private static void thePlayIsForgotten() {
        Edge.behind(DESK, 35, "from the beginning of THE PLAY (what it had is forgotten)", "go(19-14) = 0",
            "go(0-1) = 0", "go(14-9) = 0", "back() = 2", "text(c2c1+)", "read() = 1", "play(2) = 1", "play(3) = 0",
            "forth() = STATE", "field(19) = 4", "field(14) = 20", "has(0, 3) = 0", "back() = 0", "play(3) = 1",
            "forth() = 1", "field(2) = 10");
        Edge.of(35, "what it had is forgotten: STANDS that had come", KINGS, "stand(0) = 2", "text(" + ROUND + ")",
            "read() = 4", "play(4) = 2", "read() = 4", "play(4) = 2", "read() = 4", "read() = 4", "play(4) = 2",
            "play(1) = 0");
    }

    /** Within 512 calls there cannot be so many; what the class does all the same. */
    private static void mostBytes() {
        DropChase x = new DropChase(5);
        for (int i = 1; i <= 2000; i++) Due.due(32, "2000 bytes at most: type()", x.type(i % 256), i);
        Due.due(32, "FULL: the 2001st", x.type(1), Due.FULL);
        Due.due(32, "BAD ahead of FULL", x.type(256), Due.BAD);
        Due.due(34, "letter(1999)", x.letter(1999), 2000 % 256);
        Due.due(34, "letter(2000)", x.letter(2000), Due.NONE);
        Due.due(33, "wipe()", x.wipe(), 2000);
        Due.due(32, "type() behind it", x.type(1), 1);
    }
}
