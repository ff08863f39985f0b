/** Promises 9 to 19: the stand, what is asked of it, its moves. */
public final class StandTest {
    private static final String KINGS = "17 . . . ./-/-/-/. . . . 1";

    public static void main(String[] args) {
        standRefusals();
        standOfEachForm();
        clearCalls();
        fieldAndHas();
        waysOfEachBit();
        waysAtFirst();
        runsEndAtMen();
        checkCalls();
        moveOrder();
        moveOrderOfSideOne();
        raisingMoves();
        zones();
        menThatCannotStay();
        kingThatCannotStay();
        takenMen();
        whyGoing();
        whySetting();
        firstMark();
        secondMark();
        secondMarkIsNotAskedOfAnswers();
        checkShutsMoves();
        rowsOfMoves();
        mostRows();
        refusalsWithoutStand();
        Due.end();
    }

    private static void standRefusals() {
        DropChase x = Due.board(KINGS);
        Due.due(9, "stand(-1)", x.stand(-1), Due.BAD);
        Due.due(9, "stand(2)", x.stand(2), Due.BAD);
        x.line(2, 1, 4);
        Due.due(9, "a LINE with 4 items", x.stand(0), Due.INDEX);
        Due.due(36, "finding()", x.finding(), 2);
        x.put(4, 0, 0, 33);
        Due.due(9, "INDEX ahead of an item", x.stand(0), Due.INDEX);
        x.lose(2);
        Due.due(9, "an item 33", x.stand(0), Due.BAD);
        x.put(4, 0, 0, -1);
        Due.due(9, "an item -1", x.stand(0), Due.BAD);
        x.put(4, 0, 0, 9);
        Due.due(9, "a RAISED KING", x.stand(0), Due.BAD);
        x.put(4, 0, 0, 12);
        Due.due(9, "a RAISED one of KIND 3", x.stand(0), Due.BAD);
        x.put(4, 0, 0, 1);
        Due.due(9, "two KINGS", x.stand(0), Due.BAD);
        x.put(4, 0, 0, 17);
        Due.due(9, "two KINGS", x.stand(1), Due.BAD);
        x.put(4, 0, 0, 0);
        x.put(4, 0, 4, 2);
        Due.due(9, "no KING of SIDE 0", x.stand(0), Due.BAD);
        x.put(4, 0, 4, 1);
        x.put(0, 0, 0, 2);
        Due.due(9, "no KING of SIDE 1", x.stand(0), Due.BAD);
        Due.due(9, "still none", x.moves(), Due.STATE);
        x.put(0, 0, 0, 17);
        x.put(4, 0, 0, 5);
        Due.due(9, "SIDE 1 in CHECK, not to move", x.stand(0), Due.BAD);
        Due.due(9, "SIDE 1 in CHECK, to move", x.stand(1), 3);
        Due.due(9, "again", x.stand(1), Due.STATE);
        Due.due(9, "BAD ahead of STATE", x.stand(2), Due.BAD);
        Due.due(23, "SIDE to move", x.play(0), 1);
        DropChase y = Due.board("17 . . . ./21 . . . ./-/-/1 . . . .");
        Due.due(9, "SIDE 0 in CHECK, not to move", y.stand(1), Due.BAD);
        Due.due(9, "SIDE 0 in CHECK, to move", y.stand(0), 3);
        DropChase z = Due.board("17 . . . . ./-/. . 33 . . ./-/-/. . . . . 1");
        z.put(2, 0, 2, 32);
        Due.due(9, "an item 32", z.stand(0), 3);
    }

    private static void standOfEachForm() {
        DropChase x = new DropChase(5);
        x.line(0, 0, 12);
        x.put(0, 0, 0, 256 + 17);
        x.put(0, 0, 5, 99);
        x.line(1, 1, 5);
        x.put(1, 1, 3, 65536 + 2);
        x.line(2, 2, 6);
        x.put(2, 2, 4, 65536 * 3 + 18);
        x.put(2, 2, 5, -7);
        x.line(4, 1, 5);
        x.put(4, 1, 4, 1);
        Due.due(9, "stand(0)", x.stand(0), 4);
        int[] due = new int[25];
        due[0] = 17;
        due[8] = 2;
        due[14] = 18;
        due[24] = 1;
        for (int f = 0; f < 25; f++) Due.due(11, "field " + f, x.field(f), due[f]);
        x.lose(0);
        x.put(4, 1, 4, 0);
        Due.due(9, "LINES do not count any more", x.field(0), 17);
        Due.due(9, "LINES do not count any more", x.check(0), 0);
    }

    private static void clearCalls() {
        DropChase x = Due.board("17 . . . ./-/. . 20 . ./. . 2 . 4/. . . . 1");
        x.hand(0, 2, 1);
        Due.due(9, "stand(0)", x.stand(0), 5);
        x.go(Due.numberOf(x, 17, 12, false));
        Due.due(12, "has(0, 3)", x.has(0, 3), 1);
        x.go(0);
        x.go(Due.numberOfSetting(x, 2, 20));
        Due.due(12, "has(0, 2)", x.has(0, 2), 0);
        x.back();
        Due.due(10, "clear()", x.clear(), 2);
        Due.due(10, "clear() again", x.clear(), Due.STATE);
        Due.due(10, "HANDS as before", x.has(0, 2), 1);
        Due.due(10, "HANDS as before", x.has(0, 3), 0);
        Due.due(10, "no PLAY", x.play(2), Due.STATE);
        Due.due(10, "no forth()", x.forth(), Due.STATE);
        Due.due(10, "LINES stay", x.get(2, 0, 2), 20);
        Due.due(10, "stand(0)", x.stand(0), 5);
        Due.due(10, "a new PLAY", x.play(2), 0);
        Due.due(10, "a new PLAY", x.play(3), 0);
        Due.due(10, "a new PLAY", x.play(4), 1);
        Due.due(10, "as before", x.field(12), 20);
    }

    private static void fieldAndHas() {
        DropChase x = Due.board(KINGS);
        Due.due(11, "no STAND", x.field(0), Due.BAD);
        x.stand(0);
        Due.due(11, "field(0)", x.field(0), 17);
        Due.due(11, "field(24)", x.field(24), 1);
        Due.due(11, "field(12)", x.field(12), 0);
        Due.due(11, "field(-1)", x.field(-1), Due.BAD);
        Due.due(11, "field(25)", x.field(25), Due.BAD);
        int[][] bad = {{-1, 1}, {2, 1}, {0, 0}, {0, 8}, {1, -1}};
        for (int[] a : bad) Due.due(12, "bad has", x.has(a[0], a[1]), Due.BAD);
    }

    /** One man in the middle of 7 rows, which has one way alone. */
    private static void waysOfEachBit() {
        int[][] way = {{-1, 0}, {-1, 1}, {0, 1}, {1, 1}, {1, 0}, {1, -1}, {0, -1}, {-1, -1}, {-2, 1}, {-2, -1}};
        for (int side = 0; side < 2; side++) {
            int turn = side == 0 ? 1 : -1;
            for (int bit = 0; bit < 10; bit++) {
                boolean[] step = new boolean[49];
                step[24 + turn * (7 * way[bit][0] + way[bit][1])] = true;
                attacksAre(side, 1 << bit, 0, step);
            }
            for (int bit = 0; bit < 8; bit++) {
                boolean[] run = new boolean[49];
                for (int i = 1; i <= 3; i++) run[24 + i * turn * (7 * way[bit][0] + way[bit][1])] = true;
                attacksAre(side, 0, 1 << bit, run);
            }
        }
    }

    private static void attacksAre(int side, int steps, int runs, boolean[] due) {
        for (int raised = 0; raised < 2; raised++) {
            DropChase x = new DropChase(7);
            Due.due(2, "a KING that goes nowhere", x.kind(0, 0, 0, 0, 0, 0), 1);
            if (raised == 1) Due.due(2, "kind", x.kind(5, 0, 0, steps, runs, 0), 1);
            else Due.due(2, "kind", x.kind(5, steps, runs, 0, 0, 0), 1);
            Due.tell(x, ". 17 . . . . ./-/-/. . . " + (6 + 8 * raised + 16 * side) + " . . ./-/-/. . . . . 1 .");
            Due.due(9, "stand(0)", x.stand(0), 3);
            for (int f = 0; f < 49; f++) {
                String call = "attacks(" + side + ", " + f + ") by " + steps + ", " + runs;
                Due.due(13, call, x.attacks(side, f), due[f] ? 1 : 0);
                Due.due(13, call, x.attacks(1 - side, f), 0);
            }
        }
    }

    /** The KINDS at first, in the middle of 7 rows: '-' where one goes, '+' where only a RAISED one goes, '=' both. */
    private static void waysAtFirst() {
        reachIs(0, "......./......./..===../..=.=../..===../......./.......");
        reachIs(1, "......./......./..+=+../..+.+../...+.../......./.......");
        reachIs(2, "......./......./..===../..+.+../..-+-../......./.......");
        reachIs(3, "......./......./..---../..-.-../...-.../......./.......");
        reachIs(4, "...=.../...=.../..+=+../===.===/..+=+../...=.../...=...");
        reachIs(5, "=.....=/.=...=./..=+=../..+.+../..=+=../.=...=./=.....=");
        reachIs(6, "...-.../...-.../..+=+../..+.+../...+.../......./.......");
        reachIs(7, "......./..-.-../..+++../..+.+../...+.../......./.......");
    }

    private static void reachIs(int kind, String picture) {
        String fields = picture.replace("/", "");
        for (int side = 0; side < 2; side++) {
            for (int raised = 0; raised < 2; raised++) {
                if (raised == 1 && !picture.contains("+") && !picture.contains("=")) continue;
                if (raised == 1 && kind == 0) continue;
                DropChase x = new DropChase(7);
                if (kind != 0) x.kind(0, 0, 0, 0, 0, 0);
                int item = 1 + kind + 8 * raised + 16 * side;
                int other = side == 0 ? 17 : 1;
                String own = kind == 0 ? "." : "" + (18 - other);
                Due.tell(x, ". " + other + " . . . . ./-/-/. . . " + item + " . . ./-/-/. . . . . " + own + " .");
                Due.due(9, "stand", x.stand(0), kind == 0 ? 2 : 3);
                for (int f = 0; f < 49; f++) {
                    char c = fields.charAt(side == 0 ? f : 48 - f);
                    boolean due = c == '=' || c == (raised == 1 ? '+' : '-');
                    Due.due(13, "KIND " + kind + " item " + item + " at " + f, x.attacks(side, f), due ? 1 : 0);
                }
            }
        }
    }

    private static void runsEndAtMen() {
        DropChase x = Due.board(". 17 . . ./-/5 . 2 . 18/-/. . . . 1");
        Due.due(9, "stand(0)", x.stand(0), 5);
        Due.due(13, "over an empty FIELD", x.attacks(0, 11), 1);
        Due.due(13, "its own man", x.attacks(0, 12), 1);
        Due.due(13, "behind its own man", x.attacks(0, 13), 0);
        Due.due(13, "up to the end", x.attacks(0, 0), 1);
        Due.due(13, "down to the end", x.attacks(0, 20), 1);
        Due.due(13, "where it stands", x.attacks(0, 10), 0);
        x.clear();
        x.put(2, 0, 2, 0);
        Due.due(13, "stand(0)", x.stand(0), 4);
        Due.due(13, "over empty FIELDS", x.attacks(0, 13), 1);
        Due.due(13, "the other SIDE's man", x.attacks(0, 14), 1);
        x.clear();
        x.put(2, 0, 2, 18);
        Due.due(13, "stand(0)", x.stand(0), 5);
        Due.due(13, "the other SIDE's man", x.attacks(0, 12), 1);
        Due.due(13, "behind the other SIDE's man", x.attacks(0, 13), 0);
        Due.due(13, "attacks(-1, 0)", x.attacks(-1, 0), Due.BAD);
        Due.due(13, "attacks(2, 0)", x.attacks(2, 0), Due.BAD);
        Due.due(13, "attacks(0, -1)", x.attacks(0, -1), Due.BAD);
        Due.due(13, "attacks(0, 25)", x.attacks(0, 25), Due.BAD);
    }

    private static void checkCalls() {
        DropChase x = Due.board("17 . . . ./-/. . . . 21/-/. . . . 1");
        Due.due(9, "stand(0)", x.stand(0), 3);
        Due.due(14, "check(0)", x.check(0), 1);
        Due.due(14, "check(1)", x.check(1), 0);
        Due.due(14, "check(-1)", x.check(-1), Due.BAD);
        Due.due(14, "check(2)", x.check(2), Due.BAD);
        Due.due(14, "the KING goes", x.go(Due.numberOf(x, 24, 23, false)), 0);
        Due.due(14, "check(0)", x.check(0), 0);
    }

    private static void moveIs(DropChase x, int i, int... due) {
        for (int what = 0; what < 5; what++) {
            Due.due(16, "move(" + i + ", " + what + ")", x.move(i, what), due[what]);
        }
    }

    /** KIND 4 told with STEPS and RUNS of one bit: what comes by both is there once, among the STEPS. */
    private static void moveOrder() {
        DropChase x = new DropChase(5);
        x.kind(4, 4 + 512, 1 + 4, 0, 0, 0);
        x.kind(2, 16, 0, 1, 0, 0);
        Due.tell(x, ". . 17 . 3/-/-/. 5 . . 18/1 . . . .");
        x.hand(0, 3, 1);
        x.hand(0, 1, 2);
        Due.due(9, "stand(0)", x.stand(0), 5);
        moveIs(x, 0, 4, 9, 0, 2, -1);
        moveIs(x, 1, 4, 9, 1, 2, -1);
        moveIs(x, 2, 16, 17, 0, 4, -1);
        moveIs(x, 3, 16, 5, 0, 4, -1);
        moveIs(x, 4, 16, 11, 0, 4, -1);
        moveIs(x, 5, 16, 6, 0, 4, -1);
        moveIs(x, 6, 16, 1, 0, 4, -1);
        moveIs(x, 7, 16, 18, 0, 4, -1);
        moveIs(x, 8, 16, 19, 0, 4, 1);
        moveIs(x, 9, 20, 15, 0, 0, -1);
        moveIs(x, 10, 20, 21, 0, 0, -1);
        moveIs(x, 11, -1, 5, 0, 1, -1);
        moveIs(x, 12, -1, 6, 0, 1, -1);
        moveIs(x, 27, -1, 24, 0, 1, -1);
        moveIs(x, 28, -1, 0, 0, 3, -1);
        moveIs(x, 29, -1, 1, 0, 3, -1);
        moveIs(x, 47, -1, 24, 0, 3, -1);
        Due.due(15, "moves()", x.moves(), 48);
        Due.due(16, "move(-1, 0)", x.move(-1, 0), Due.BAD);
        Due.due(16, "move(48, 0)", x.move(48, 0), Due.BAD);
        Due.due(16, "move(0, -1)", x.move(0, -1), Due.BAD);
        Due.due(16, "move(0, 5)", x.move(0, 5), Due.BAD);
    }

    private static void moveOrderOfSideOne() {
        DropChase x = Due.board("17 . . . ./-/. . 19 . ./-/. . . . 1");
        Due.due(9, "stand(1)", x.stand(1), 3);
        moveIs(x, 0, 0, 5, 0, 0, -1);
        moveIs(x, 1, 0, 1, 0, 0, -1);
        moveIs(x, 2, 0, 6, 0, 0, -1);
        moveIs(x, 3, 12, 17, 0, 2, -1);
        moveIs(x, 4, 12, 16, 0, 2, -1);
        moveIs(x, 5, 12, 6, 0, 2, -1);
        moveIs(x, 6, 12, 8, 0, 2, -1);
        moveIs(x, 7, 12, 18, 0, 2, -1);
        Due.due(15, "moves()", x.moves(), 8);
        DropChase y = Due.board("17 . . . ./-/. . . 22 ./-/. . . . 1");
        Due.due(9, "stand(1)", y.stand(1), 3);
        int[] to = {17, 21, 21, 7, 1, 9, 19};
        int[] raise = {0, 0, 1, 0, 0, 0, 0};
        for (int i = 0; i < to.length; i++) moveIs(y, 3 + i, 13, to[i], raise[i], 5, -1);
        Due.due(15, "moves()", y.moves(), 10);
    }

    private static void raisingMoves() {
        DropChase x = Due.board("17 . . . ./. . 2 . ./. . . . ./3 . . . ./11 . . . 1");
        Due.due(9, "stand(0)", x.stand(0), 5);
        Due.due(16, "KIND 1 comes to the end RAISED only", Due.numberOf(x, 7, 2, false), Due.NONE);
        int i = Due.numberOf(x, 7, 2, true);
        moveIs(x, i, 7, 2, 1, 1, -1);
        Due.due(16, "not in the ZONE", Due.numberOf(x, 15, 10, true), Due.NONE);
        Due.due(16, "not in the ZONE", Due.numberOf(x, 15, 10, false) >= 0 ? 1 : 0, 1);
        Due.due(16, "RAISED already", Due.numberOf(x, 20, 21, false) >= 0 ? 1 : 0, 1);
        x.go(i);
        Due.due(11, "it is RAISED", x.field(2), 10);
        Due.due(11, "it has gone", x.field(7), 0);
        Due.due(13, "it goes as a RAISED one", x.attacks(0, 3), 1);
        x.go(Due.numberOf(x, 0, 5, false));
        Due.due(16, "not RAISED twice", Due.numberOf(x, 2, 3, true), Due.NONE);
        moveIs(x, Due.numberOf(x, 2, 3, false), 2, 3, 0, 1, -1);
        DropChase y = Due.board("3 . . . 17/-/-/-/. . 18 . 1");
        Due.due(9, "stand(0)", y.stand(0), 4);
        Due.due(16, "first as it is", Due.numberOf(y, 0, 6, false), 0);
        Due.due(16, "then RAISED, from the ZONE", Due.numberOf(y, 0, 6, true), 1);
    }

    /** A man of KIND 2 on each row: can it be RAISED as it goes on a row more? */
    private static void zones() {
        for (int n = 5; n <= 7; n++) {
            int deep = n == 5 ? 1 : 2;
            for (int row = 0; row < n - 1; row++) {
                for (int side = 0; side < 2; side++) {
                    DropChase x = new DropChase(n);
                    x.kind(0, 0, 0, 0, 0, 0);
                    x.kind(2, 17, 0, 17, 0, 0);
                    for (int r = 0; r < n; r++) x.line(r, 2, n);
                    x.put(row, 2, 2, 3 + 16 * side);
                    x.put(0, 2, 0, 17);
                    x.put(0, 2, n - 1, 1);
                    Due.due(9, "stand", x.stand(side), 3);
                    int from = n * row + 2;
                    boolean can = side == 0 ? row < deep : row + 1 >= n - deep;
                    String call = "N " + n + ", SIDE " + side + ", row " + row;
                    Due.due(17, call, x.why(from, from + n, true), can ? 0 : 4);
                    Due.due(16, call, Due.numberOf(x, from, from + n, true) >= 0 ? 1 : 0, can ? 1 : 0);
                    Due.due(16, call, Due.numberOf(x, from, from + n, false) >= 0 ? 1 : 0, 1);
                }
            }
        }
    }

    private static void menThatCannotStay() {
        DropChase x = Due.board("17 . . . . . ./-/. . . 8 . . ./. 8 7 2 . . ./-/. . . . 24 . ./. . . . . . 1");
        Due.due(9, "stand(0)", x.stand(0), 7);
        Due.due(17, "KIND 7 on row 0", x.why(17, 4, false), 5);
        Due.due(17, "KIND 7 on row 0, RAISED", x.why(17, 4, true), 0);
        Due.due(17, "KIND 7 on row 1", x.why(22, 9, false), 5);
        Due.due(17, "KIND 7 on row 1, RAISED", x.why(22, 9, true), 0);
        Due.due(17, "KIND 6 on row 0", x.why(23, 2, false), 5);
        Due.due(17, "KIND 6 on row 1", x.why(23, 9, false), 0);
        Due.due(17, "KIND 6 on row 1, RAISED", x.why(23, 9, true), 0);
        Due.due(16, "no such MOVE", Due.numberOf(x, 17, 4, false), Due.NONE);
        x.clear();
        Due.due(2, "a KIND never RAISED", x.kind(7, 768, 0, 0, 0, 0), 1);
        Due.due(9, "stand(0)", x.stand(0), 7);
        Due.due(17, "it cannot stay", x.why(17, 4, false), 5);
        Due.due(17, "nor be RAISED", x.why(17, 4, true), 4);
        Due.due(16, "no such MOVE", Due.numberOf(x, 17, 4, false), Due.NONE);
        DropChase y = Due.board("17 . . . ./-/. . 24 . ./-/. 3 . . 1");
        Due.due(9, "stand(1)", y.stand(1), 4);
        Due.due(17, "SIDE 1, KIND 7 on row 4", y.why(12, 21, false), 5);
        Due.due(17, "SIDE 1, KIND 7 on row 4", y.why(12, 21, true), 0);
        Due.due(17, "SIDE 1, KIND 7 on row 4", y.why(12, 23, true), 0);
    }

    private static void kingThatCannotStay() {
        DropChase x = new DropChase(5);
        x.kind(0, 1, 0, 0, 0, 0);
        Due.tell(x, "-/1 . . . ./. . . . ./. . . . 17/-");
        Due.due(9, "stand(0)", x.stand(0), 2);
        Due.due(17, "a KING that could not go on", x.why(5, 0, false), 5);
        Due.due(15, "no MOVE", x.moves(), 0);
        Due.due(23, "STATE", x.play(1), 1);
        x.clear();
        Due.due(9, "stand(1)", x.stand(1), 2);
        Due.due(15, "no MOVE", x.moves(), 0);
    }

    private static void takenMen() {
        DropChase x = Due.board("17 . . . ./-/. . 26 . ./. . 4 . ./. . . . 1");
        Due.due(9, "stand(0)", x.stand(0), 4);
        int i = Due.numberOf(x, 17, 12, false);
        moveIs(x, i, 17, 12, 0, 3, 1);
        Due.due(20, "it is taken", x.go(i), 0);
        Due.due(12, "has(0, 1)", x.has(0, 1), 1);
        Due.due(12, "has(1, 1)", x.has(1, 1), 0);
        Due.due(11, "field(12)", x.field(12), 4);
        x.go(0);
        i = Due.numberOfSetting(x, 1, 17);
        moveIs(x, i, -1, 17, 0, 1, -1);
        x.go(i);
        Due.due(11, "it comes back, not RAISED", x.field(17), 2);
        Due.due(12, "has(0, 1)", x.has(0, 1), 0);
    }

    private static void whyGoing() {
        DropChase x = Due.board("17 . . . 21/. 2 . . ./. . . . 3/. . . . ./. . . 4 1");
        Due.due(9, "stand(0)", x.stand(0), 6);
        Due.due(17, "an empty FIELD", x.why(12, 13, false), 1);
        Due.due(17, "the other SIDE's", x.why(0, 5, false), 1);
        Due.due(17, "not REACHED", x.why(24, 22, false), 2);
        Due.due(17, "where it stands", x.why(24, 24, false), 2);
        Due.due(17, "its own man", x.why(24, 23, false), 3);
        Due.due(17, "its own man, ahead of RAISED", x.why(24, 23, true), 3);
        Due.due(17, "a KING is not RAISED", x.why(24, 19, true), 4);
        Due.due(17, "KIND 3 is not RAISED", x.why(23, 18, true), 4);
        Due.due(17, "KIND 2, not in the ZONE", x.why(14, 8, true), 4);
        Due.due(17, "KIND 1 cannot stay", x.why(6, 1, false), 5);
        Due.due(17, "KIND 1 RAISED", x.why(6, 1, true), 0);
        Due.due(17, "CHECK behind it", x.why(14, 8, false), 6);
        Due.due(17, "along the line", x.why(14, 9, false), 0);
        Due.due(17, "a KING", x.why(24, 18, false), 0);
        Due.due(17, "why(-1, 0)", x.why(-1, 0, false), Due.BAD);
        Due.due(17, "why(25, 0)", x.why(25, 0, false), Due.BAD);
        Due.due(17, "why(0, -1)", x.why(0, -1, false), Due.BAD);
        Due.due(17, "why(0, 25)", x.why(0, 25, true), Due.BAD);
        Due.due(16, "no MOVE into CHECK", Due.numberOf(x, 14, 8, false), Due.NONE);
    }

    private static void whySetting() {
        DropChase x = Due.board("17 . . . ./-/. . . . 21/-/. . . . 1");
        x.hand(0, 2, 1);
        x.hand(0, 7, 1);
        x.hand(0, 1, 1);
        x.hand(0, 6, 1);
        Due.due(9, "stand(0)", x.stand(0), 3);
        Due.due(18, "none in the HAND", x.whySet(3, 19), 1);
        Due.due(18, "none in the HAND, ahead of all", x.whySet(3, 24), 1);
        Due.due(18, "not empty", x.whySet(2, 24), 2);
        Due.due(18, "not empty, ahead", x.whySet(7, 0), 2);
        Due.due(18, "KIND 7 on row 0", x.whySet(7, 1), 3);
        Due.due(18, "KIND 7 on row 1", x.whySet(7, 9), 3);
        Due.due(18, "KIND 1 on row 0", x.whySet(1, 1), 3);
        Due.due(18, "KIND 6 on row 0", x.whySet(6, 1), 3);
        Due.due(18, "CHECK", x.whySet(2, 18), 5);
        Due.due(18, "between", x.whySet(2, 19), 0);
        Due.due(18, "KIND 0", x.whySet(0, 19), Due.BAD);
        Due.due(18, "KIND 8", x.whySet(8, 19), Due.BAD);
        Due.due(18, "FIELD -1", x.whySet(2, -1), Due.BAD);
        Due.due(18, "FIELD 25", x.whySet(2, 25), Due.BAD);
        x.clear();
        x.hand(1, 7, 2);
        x.put(2, 0, 4, 0);
        Due.due(9, "stand(1)", x.stand(1), 2);
        Due.due(18, "SIDE 1, KIND 7 on row 3", x.whySet(7, 15), 3);
        Due.due(18, "SIDE 1, KIND 7 on row 2", x.whySet(7, 10), 0);
        Due.due(18, "SIDE 1, KIND 1 in none's HAND", x.whySet(1, 10), 1);
    }

    private static void firstMark() {
        DropChase x = Due.board("17 . . . ./. 18 . . ./. . . . ./2 3 10 . ./. . . . 1");
        x.hand(0, 1, 2);
        x.hand(0, 2, 1);
        Due.due(9, "stand(0)", x.stand(0), 6);
        Due.due(18, "such a man in the column", x.whySet(1, 10), 4);
        Due.due(18, "such a man in the column, behind it", x.whySet(1, 20), 4);
        Due.due(18, "another KIND, another SIDE", x.whySet(1, 11), 0);
        Due.due(18, "a RAISED one", x.whySet(1, 12), 0);
        Due.due(18, "KIND 2 has no MARK", x.whySet(2, 11), 0);
        Due.due(16, "no such MOVE", Due.numberOfSetting(x, 1, 10), Due.NONE);
        Due.due(16, "such a MOVE", Due.numberOfSetting(x, 1, 11) >= 0 ? 1 : 0, 1);
        x.clear();
        x.kind(1, 1, 0, 215, 0, 2);
        x.kind(2, 171, 0, 215, 0, 1);
        Due.due(9, "stand(0)", x.stand(0), 6);
        Due.due(18, "without MARK 1", x.whySet(1, 10), 0);
        Due.due(18, "with MARK 1", x.whySet(2, 11), 4);
    }

    /** KIND 1 is MATE ahead of the KING: with MARK 2 that is no MOVE, without it is; KIND 3 may. */
    private static void secondMark() {
        String rows = "17 . . . . ./. . 1 . . ./. 6 . . . ./-/-/-";
        DropChase x = Due.board(rows);
        x.hand(0, 1, 1);
        x.hand(0, 3, 1);
        Due.due(9, "stand(0)", x.stand(0), 3);
        Due.due(18, "MATE at once by KIND 1", x.whySet(1, 6), 6);
        Due.due(18, "no MATE by KIND 1", x.whySet(1, 18), 0);
        Due.due(18, "MATE by KIND 3", x.whySet(3, 6), 0);
        Due.due(16, "no such MOVE", Due.numberOfSetting(x, 1, 6), Due.NONE);
        Due.due(20, "KIND 3 is set", x.go(Due.numberOfSetting(x, 3, 6)), 1);
        x.clear();
        Due.due(2, "MARK 1 alone", x.kind(1, 1, 0, 215, 0, 1), 1);
        Due.due(9, "stand(0)", x.stand(0), 3);
        Due.due(18, "MATE by KIND 1", x.whySet(1, 6), 0);
        Due.due(20, "KIND 1 is set", x.go(Due.numberOfSetting(x, 1, 6)), 1);
        DropChase y = Due.board("17 . . . . ./. . . . . ./. 6 1 . . ./-/-/-");
        y.hand(0, 1, 1);
        Due.due(9, "stand(0)", y.stand(0), 3);
        Due.due(18, "CHECK by KIND 1 that is no MATE", y.whySet(1, 6), 0);
    }

    /**
     * SIDE 0 answers a CHECK by setting KIND 4, with CHECK. SIDE 1 has but one answer: to set KIND 3, which would be
     * MATE at once. Without MARK 2 that is an answer, so KIND 4 may be set; with MARK 2 it is no MOVE.
     */
    private static void secondMarkIsNotAskedOfAnswers() {
        DropChase x = new DropChase(7);
        x.kind(2, 0, 2, 0, 0, 0);
        x.kind(3, 128, 0, 0, 0, 2);
        x.kind(4, 0, 1, 0, 0, 2);
        x.kind(5, 0, 64, 0, 0, 0);
        x.kind(6, 0, 0, 0, 0, 0);
        Due.tell(x, ". . 23 23 23 . ./. . 23 17 23 . ./. . . . 23 7 ./. 22 . . 1 7 ./3 8 . 7 7 7 ./-/-");
        x.hand(0, 4, 1);
        x.hand(1, 3, 1);
        Due.due(9, "stand(0)", x.stand(0), 16);
        Due.due(14, "check(0)", x.check(0), 1);
        Due.due(18, "its answer is asked without MARK 2", x.whySet(4, 24), 0);
        Due.due(15, "moves()", x.moves(), 3);
        Due.due(25, "hunt(1)", x.hunt(1), 1);
        Due.due(20, "KIND 4 is set", x.go(Due.numberOfSetting(x, 4, 24)), 1);
        Due.due(14, "check(1)", x.check(1), 1);
        Due.due(18, "the answer is MATE at once", x.whySet(3, 17), 6);
        x.clear();
        x.hand(1, 3, 0);
        Due.due(9, "stand(0)", x.stand(0), 16);
        Due.due(18, "no answer at all", x.whySet(4, 24), 6);
        Due.due(15, "moves()", x.moves(), 2);
        x.clear();
        x.hand(1, 3, 1);
        x.kind(3, 128, 0, 0, 0, 0);
        Due.due(9, "stand(0)", x.stand(0), 16);
        Due.due(20, "KIND 4 is set", x.go(Due.numberOfSetting(x, 4, 24)), 0);
        Due.due(15, "moves()", x.moves(), 1);
        Due.due(20, "KIND 3 has no MARK", x.go(0), 1);
    }

    private static void checkShutsMoves() {
        DropChase x = Due.board("17 . . . ./-/. . . . 21/-/5 . . . 1");
        Due.due(9, "stand(0)", x.stand(0), Due.BAD);
        x.put(4, 0, 0, 0);
        x.put(4, 0, 1, 5);
        x.hand(0, 3, 1);
        Due.due(9, "stand(0)", x.stand(0), 4);
        for (int i = 0; i < x.moves(); i++) {
            x.go(i);
            Due.due(15, "out of CHECK by " + i, x.check(0), 0);
            x.back();
        }
        Due.due(15, "two for the KING, one SETTING", x.moves(), 3);
    }

    private static void rowsOfMoves() {
        DropChase x = Due.board(KINGS);
        Due.due(9, "stand(0)", x.stand(0), 2);
        Due.due(19, "rows(1)", x.rows(1), 3);
        Due.due(19, "rows(2)", x.rows(2), 9);
        int sum = 0;
        for (int i = 0; i < 3; i++) {
            x.go(i);
            sum += x.rows(2);
            x.back();
        }
        Due.due(19, "rows(3)", x.rows(3), sum);
        Due.due(19, "rows(0)", x.rows(0), Due.BAD);
        Due.due(19, "rows(4)", x.rows(4), Due.BAD);
        Due.due(19, "nothing has changed", x.play(2), 0);
        DropChase y = Due.board("17 . . . . . ./-/-/-/-/-/. . . . . . 1");
        for (int kind = 2; kind < 8; kind++) {
            y.hand(0, kind, 1);
            y.hand(1, kind, 1);
        }
        Due.due(9, "stand(0)", y.stand(0), 2);
        Due.due(19, "rows(1)", y.rows(1), y.moves());
        Due.due(19, "rows(2)", y.rows(2), Due.SPENT);
        Due.due(19, "rows(3)", y.rows(3), Due.SPENT);
        Due.due(19, "nothing has changed", y.play(0), 0);
    }

    /** KIND 6 goes nowhere here. */
    private static void mostRows() {
        DropChase x = new DropChase(7);
        x.kind(6, 0, 0, 0, 0, 0);
        Due.tell(x, "17 . . . 23 . ./-/-/-/-/-/. . . . . . 1");
        int[] of0 = {2, 4, 7};
        int[] of1 = {2, 3, 4, 7};
        for (int kind : of0) x.hand(0, kind, 1);
        for (int kind : of1) x.hand(1, kind, 1);
        Due.due(9, "stand(0)", x.stand(0), 3);
        Due.due(19, "rows(2)", x.rows(2), 20000);
        x.clear();
        x.hand(1, 7, 0);
        x.hand(1, 5, 1);
        Due.tell(x, "17 . . . . . ./. . . . . 23 ./. . . . . . 7/-/-/-/. . . . . . 1");
        Due.due(9, "stand(0)", x.stand(0), 4);
        Due.due(19, "20001 rows", x.rows(2), Due.SPENT);
    }

    private static void refusalsWithoutStand() {
        DropChase x = Due.board(KINGS);
        Due.due(13, "attacks", x.attacks(0, 0), Due.STATE);
        Due.due(13, "BAD ahead", x.attacks(0, 25), Due.BAD);
        Due.due(14, "check", x.check(0), Due.STATE);
        Due.due(14, "BAD ahead", x.check(2), Due.BAD);
        Due.due(15, "moves", x.moves(), Due.STATE);
        Due.due(16, "STATE ahead of BAD", x.move(-1, 9), Due.STATE);
        Due.due(17, "why", x.why(0, 1, false), Due.STATE);
        Due.due(17, "BAD ahead", x.why(0, 25, false), Due.BAD);
        Due.due(18, "whySet", x.whySet(1, 1), Due.STATE);
        Due.due(18, "BAD ahead", x.whySet(0, 1), Due.BAD);
        Due.due(19, "rows", x.rows(1), Due.STATE);
        Due.due(19, "BAD ahead", x.rows(0), Due.BAD);
    }
}
