import java.math.BigInteger;
import java.util.ArrayList;
import java.util.Collections;
import java.util.List;

/** Promises 20 to 23 and 37, section 3: each sentence that names a boundary case. */
public final class PlayEdgesTest {
    private static final String KINGS = "board(17 . . . ./-/-/-/. . . . 1)";
    private static final String[] TWICE = {KINGS, "stand(0) = 2",
        "go(24-19) = 0", "go(0-1) = 0", "go(19-24) = 0", "go(1-0) = 0"};
    private static final String[] THRICE = {KINGS, "stand(0) = 2",
        "go(24-19) = 0", "go(0-1) = 0", "go(19-24) = 0", "go(1-0) = 0",
        "go(24-19) = 0", "go(0-1) = 0", "go(19-24) = 0", "go(1-0) = 0"};

    public static void main(String[] args) {
        goRefusals();
        forgottenMoves();
        noMove();
        standsThatComeAgain();
        standsWithAManElsewhere();
        checksSinceTheFirstTime();
        movesAheadOfTheFirstTime();
        threeHundredMoves();
        fourthTimeAtTheEnd();
        backRefusals();
        forthRefusals();
        playRefusals();
        digests();
        Due.end();
    }

    private static void goRefusals() {
        Edge.of(20, "STATE: no STAND; BAD: no such MOVE", KINGS, "go(0) = STATE", "go(-1) = STATE", "go(99) = STATE",
            "stand(0) = 2", "go(-1) = BAD", "go(3) = BAD", "go(LEAST) = BAD", "go(MOST) = BAD", "play(2) = 0",
            "go(2) = 0", "play(2) = 1", "go(3) = BAD", "go(0) = 0", "clear() = 2", "go(0) = STATE");
        Edge.behind(THRICE, 20, "BAD: no such MOVE; STATE: the STATE is not 0", "go(24-19) = 0", "go(0-1) = 0",
            "go(19-24) = 0", "go(1-0) = 2", "moves() = 3", "go(3) = BAD", "go(-1) = BAD", "go(0) = STATE",
            "go(2) = STATE", "play(2) = 12", "moves() = 3", "rows(1) = 3", "rows(2) = 9", "hunt(1) = 0");
    }

    private static void forgottenMoves() {
        Edge.behind(TWICE, 20, "(what was gone back over is forgotten)", "back() = 3", "back() = 2", "play(3) = 2",
            "go(-1) = BAD", "go(99) = BAD", "play(3) = 2", "forth() = 3", "back() = 2", "play(3) = 2", "go(0) = 0",
            "play(3) = 0", "play(2) = 3", "forth() = STATE", "back() = 2", "play(3) = 1");
        Edge.behind(TWICE, 20, "is forgotten, though the same MOVE is done", "back() = 3", "back() = 2",
            "go(19-24) = 0", "play(3) = 0", "forth() = STATE");
    }

    private static void noMove() {
        Edge.of(20, "1 the SIDE to move has no MOVE: in CHECK", "board(17 . . . . ./. . 1 . . ./. 6 . . . ./-/-/-)",
            "hand(0, 3, 1) = 0", "stand(0) = 3", "play(1) = 0", "go(3*6) = 1", "play(1) = 1", "check(1) = 1",
            "play(5) = 1", "moves() = 0", "go(0) = BAD", "rows(3) = 0", "back() = 0", "play(1) = 0", "forth() = 1",
            "play(1) = 1");
        Edge.of(20, "1 the SIDE to move has no MOVE: not in CHECK", "board(17 20 . . ./20 20 . . ./-/-/. . . . 1)",
            "kind(3, 0, 0, 0, 0, 0) = 1", "stand(0) = 5", "go(24-23) = 1", "check(1) = 0", "play(5) = 0",
            "go(0) = BAD", "clear() = 1", "stand(1) = 5", "play(1) = 1", "go(0) = BAD");
    }

    private static void standsThatComeAgain() {
        Edge.of(23, "a STAND that has come: the first time", KINGS, "stand(0) = 2", "play(4) = 1", "play(1) = 0",
            "go(24-19) = 0", "play(4) = 1");
        Edge.behind(TWICE, 23, "a STAND that has come: twice", "play(4) = 2", "play(1) = 0", "back() = 3",
            "play(4) = 1", "forth() = 4", "play(4) = 2");
        Edge.behind(THRICE, 23, "a STAND that has come: thrice", "play(4) = 3", "play(1) = 0", "moves() = 3",
            "go(24-23) = 0", "play(4) = 1");
        Edge.behind(THRICE, 23, "a STAND that has come the fourth time", "go(24-19) = 0", "play(4) = 3",
            "go(0-1) = 0", "play(4) = 3", "go(19-24) = 0", "play(4) = 3", "go(1-0) = 2", "play(4) = 4", "play(1) = 2",
            "back() = 11", "play(4) = 3", "play(1) = 0", "forth() = 12", "play(1) = 2", "forth() = STATE");
        Edge.behind(THRICE, 23, "the fourth time in the PLAY: not in the one before", "clear() = 8", "stand(0) = 2",
            "play(4) = 1", "go(24-19) = 0", "go(0-1) = 0", "go(19-24) = 0", "go(1-0) = 0", "play(4) = 2");
        Edge.behind(THRICE, 23, "the fourth time: what was gone back over does not count", "back() = 7", "back() = 6",
            "back() = 5", "back() = 4", "play(4) = 2", "go(24-19) = 0", "go(0-1) = 0", "go(19-24) = 0",
            "go(1-0) = 0", "play(4) = 3", "play(1) = 0");
        Edge.of(23, "(BOARD, HANDS, SIDE to move): the other SIDE to move", KINGS, "stand(0) = 2", "go(24-19) = 0",
            "go(0-1) = 0", "go(19-23) = 0", "go(1-0) = 0", "go(23-24) = 0", "field(24) = 1", "field(0) = 17",
            "play(4) = 1");
        for (int kind = 1; kind < 8; kind++) {
            Edge.of(23, "(BOARD, HANDS, SIDE to move): one less in a HAND, one more in the other, KIND " + kind,
                "board(-/-/17 . . . ./-/. . . . 1)", "hand(0, " + kind + ", 1) = 0", "stand(0) = 2",
                "go(" + kind + "*15) = 0", "go(10-15) = 0", "go(24-23) = 0", "go(15-11) = 0", "go(23-24) = 0",
                "go(11-10) = 0", "field(24) = 1", "field(10) = 17", "play(0) = 0", "play(4) = 1",
                "has(1, " + kind + ") = 1", "has(0, " + kind + ") = 0");
        }
        Edge.of(23, "(BOARD, HANDS, SIDE to move): one MAN elsewhere",
            "board(17 32 . . ./21 . . . ./-/-/. . . . 1)", "stand(0) = 4", "go(24-19) = 0", "go(1-6) = 0",
            "go(19-23) = 0", "go(5-10) = 0", "go(23-24) = 0", "go(10-5) = 0", "field(1) = 0", "field(6) = 32",
            "field(5) = 21", "play(0) = 0", "play(4) = 1");
    }

    /** A MAN goes through all rows but the last two, a KING to and fro meanwhile: no STAND comes again. */
    private static void standsWithAManElsewhere() {
        for (int n = 5; n <= 7; n++) {
            for (int item : new int[] {18, 32}) {
                List<String> steps = new ArrayList<>();
                String last = "1" + " .".repeat(n - 2) + " 17";
                steps.add("board(" + item + " .".repeat(n - 1) + "/-".repeat(n - 2) + "/" + last + ")");
                Collections.addAll(steps, "kind(1, 69, 0, 0, 0, 0) = 1", "kind(7, 0, 0, 69, 0, 0) = 1", "stand(1) = 3");
                int king = n * (n - 1);
                for (int i = 1; i < n * (n - 2); i++) {
                    String one = "go(" + onTheWay(n, i - 1) + "-" + onTheWay(n, i) + ") = 0";
                    String other = "go(" + king + "-" + (king + i % 2 - (i + 1) % 2) + ") = 0";
                    Collections.addAll(steps, one, "play(4) = 1", other, "play(4) = 1");
                    king += i % 2 - (i + 1) % 2;
                }
                Edge.of(23, "how often this STAND has come: a MAN elsewhere", steps.toArray(new String[0]));
            }
        }
    }

    private static int onTheWay(int n, int i) {
        int row = i / n;
        return n * row + (row % 2 == 0 ? i % n : n - 1 - i % n);
    }

    private static void checksSinceTheFirstTime() {
        String[] run = {"go(21-20) = 0", "go(0-1) = 0", "go(20-21) = 0"};
        String[] all = new String[12];
        for (int i = 0; i < 12; i++) all[i] = i % 4 < 3 ? run[i % 4] : "go(1-0) = " + (i < 11 ? 0 : 3);
        String board = "board(17 . . . ./-/-/-/. 5 . . 1)";
        String[] first = {board, "stand(0) = 3"};
        Edge.behind(first, 20, "if all MOVES of SIDE 0 since it came first gave CHECK: 3", all);
        all[8] = "go(21-22) = 0";
        all[10] = "go(22-21) = 0";
        all[11] = "go(1-0) = 2";
        Edge.behind(first, 20, "if all MOVES of SIDE 0 gave CHECK: not all, so 2", all);
        String[] turned = new String[12];
        int[] fields = {3, 4, 24, 23, 4, 3, 23, 24};
        for (int i = 0; i < 12; i++) {
            int at = i % 4 * 2;
            turned[i] = "go(" + fields[at] + "-" + fields[at + 1] + ") = " + (i < 11 ? 0 : 4);
        }
        Edge.behind(new String[] {"board(17 . . 21 ./-/-/-/. . . . 1)", "stand(1) = 3"}, 20,
            "else if those of SIDE 1: 4", turned);
    }

    /**
     * So many MOVES without CHECK come first; then KIND 4 gives CHECK again and again, its first MOVE perhaps without.
     * For SIDE 1 all is turned about.
     */
    private static void movesAheadOfTheFirstTime() {
        for (int side = 0; side < 2; side++) {
            for (int ahead = 0; ahead <= 5; ahead++) {
                repeatedChecks(side, ahead, 20, 3 + side);
                repeatedChecks(side, ahead, 22, 2);
            }
        }
    }

    private static void repeatedChecks(int side, int ahead, int firstTo, int due) {
        List<String> steps = new ArrayList<>();
        Collections.addAll(steps, "new(5)", "line(0, 0, 5) = 5", "line(1, 0, 5) = 5", "line(2, 0, 5) = 5",
            "line(3, 0, 5) = 5", "line(4, 0, 5) = 5", putTurned(side, 21, 5), putTurned(side, 24 - 5 * (ahead / 2), 1),
            putTurned(side, 5 * ((ahead + 1) / 2), 17), "stand(" + (side + ahead) % 2 + ") = 3");
        for (int left = ahead; left > 0; left--) {
            int from = left % 2 == 0 ? 24 - 5 * (left / 2) : 5 * ((left + 1) / 2);
            steps.add(goTurned(side, from, left % 2 == 0 ? from + 5 : from - 5, 0));
        }
        for (int round = 0; round < 3; round++) {
            int to = round == 0 ? firstTo : 20;
            Collections.addAll(steps, goTurned(side, 21, to, 0), goTurned(side, 0, 1, 0), goTurned(side, to, 21, 0),
                goTurned(side, 1, 0, round < 2 ? 0 : due));
        }
        Collections.addAll(steps, "play(1) = " + due, "play(2) = " + (12 + ahead), "play(4) = 4");
        Edge.of(20, "since it came first: " + ahead + " MOVES ahead of it", steps.toArray(new String[0]));
    }

    private static String putTurned(int side, int f, int item) {
        int at = side == 0 ? f : 24 - f;
        int then = side == 0 ? item : item > 16 ? item - 16 : item + 16;
        return "put(" + at / 5 + ", 0, " + at % 5 + ", " + then + ") = 1";
    }

    private static String goTurned(int side, int from, int to, int due) {
        return "go(" + (side == 0 ? from : 24 - from) + "-" + (side == 0 ? to : 24 - to) + ") = " + due;
    }

    private static void threeHundredMoves() {
        List<Integer> moves = Walk.alwaysNew(Walk.beginning(), 300);
        Edge.behind(Walk.steps(moves, 0), 20, "300 MOVES at most. FULL: 300 MOVES", "play(1) = 0", "play(2) = 300",
            "go(0) = FULL", "go(-1) = BAD", "go(99) = BAD", "forth() = STATE", "back() = 299", "forth() = 300",
            "go(0) = FULL", "back() = 299", "play(3) = 1", "go(0) = 0", "play(2) = 300", "play(3) = 0",
            "go(0) = FULL", "clear() = 300", "stand(0) = 2", "go(0) = 0", "play(2) = 1");
    }

    private static void fourthTimeAtTheEnd() {
        Model model = Walk.beginning();
        List<Integer> moves = Walk.alwaysNew(model, 288);
        moves.addAll(Walk.toAndFro(model));
        Edge.behind(Walk.steps(moves, 2), 20, "STATE: the STATE is not 0; FULL: 300 MOVES (STATE ahead)",
            "play(2) = 300", "play(4) = 4", "go(0) = STATE", "go(99) = BAD", "back() = 299", "play(4) = 3",
            "play(1) = 0", "forth() = 300", "go(0) = STATE");
    }

    private static void backRefusals() {
        Edge.of(21, "STATE: there is none.", KINGS, "back() = STATE", "stand(0) = 2", "back() = STATE", "go(0) = 0",
            "back() = 0", "back() = STATE", "play(3) = 1", "forth() = 1", "clear() = 1", "back() = STATE");
    }

    private static void forthRefusals() {
        Edge.of(22, "STATE: there is none.", KINGS, "forth() = STATE", "stand(0) = 2", "forth() = STATE", "go(0) = 0",
            "forth() = STATE", "back() = 0", "forth() = 1", "forth() = STATE", "back() = 0", "clear() = 0",
            "forth() = STATE", "stand(0) = 2", "forth() = STATE");
        Edge.behind(TWICE, 22, "The MOVE that was gone back over last is done again", "back() = 3", "back() = 2",
            "back() = 1", "back() = 0", "play(3) = 4", "forth() = 1", "field(19) = 1", "forth() = 2", "field(1) = 17",
            "back() = 1", "forth() = 2", "field(1) = 17", "forth() = 3", "field(24) = 1", "forth() = 4",
            "field(0) = 17", "forth() = STATE", "play(4) = 2");
    }

    private static void playRefusals() {
        Edge.of(23, "BAD; STATE: no STAND.", KINGS, "play(0) = STATE", "play(5) = STATE", "play(-1) = BAD",
            "play(6) = BAD", "stand(1) = 2", "play(-1) = BAD", "play(6) = BAD", "play(LEAST) = BAD",
            "play(MOST) = BAD", "play(0) = 1", "play(1) = 0", "play(2) = 0", "play(3) = 0", "play(4) = 1",
            "play(5) = 0");
        Edge.of(23, "5 whether the latest MOVE gave CHECK (0 without one)", "board(17 . . . ./-/-/-/5 . . . 1)",
            "stand(1) = 3", "check(1) = 1", "play(5) = 0", "go(0-1) = 0", "play(5) = 0", "go(20-21) = 0",
            "play(5) = 1", "go(1-2) = 0", "play(5) = 0", "back() = 2", "play(5) = 1", "back() = 1", "play(5) = 0",
            "back() = 0", "play(5) = 0");
    }

    private static void digestIs(String what, DropChase x, int... each) {
        BigInteger h = BigInteger.valueOf(17);
        for (int one : each) h = h.multiply(BigInteger.valueOf(31)).add(BigInteger.valueOf(one));
        Due.due(37, "digest() as a long that wraps, " + what, x.digest(), h.longValue());
    }

    private static void digests() {
        DropChase x = new DropChase(5);
        int[] each = new int[25 + 14 + 5];
        digestIs("new", x, each);
        for (int kind = 1; kind < 8; kind++) {
            x.hand(0, kind, kind);
            x.hand(1, kind, 10 - kind);
            each[24 + kind] = kind;
            each[31 + kind] = 10 - kind;
        }
        digestIs("HANDS told (0 each without a STAND)", x, each);
        x.line(0, 0, 5);
        x.put(0, 0, 0, 32);
        x.put(0, 0, 4, 17);
        x.line(4, 0, 5);
        x.put(4, 0, 3, 1);
        digestIs("LINES tell nothing of it", x, each);
        x.stand(1);
        each[0] = 32;
        each[4] = 17;
        each[23] = 1;
        each[39] = 1;
        each[43] = 1;
        digestIs("a STAND", x, each);
        x.go(Due.numberOf(x, 0, 1, false));
        x.go(Due.numberOf(x, 23, 24, false));
        x.back();
        each[0] = 0;
        each[1] = 32;
        each[39] = 0;
        each[41] = 1;
        each[42] = 1;
        digestIs("a MOVE, one for forth()", x, each);
        x.clear();
        int[] then = new int[44];
        System.arraycopy(each, 25, then, 25, 14);
        digestIs("no STAND any more", x, then);
        digestIs("N 7", new DropChase(7), new int[49 + 14 + 5]);
    }
}
