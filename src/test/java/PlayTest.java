/** Promises 20 to 23 and 37: plays forth and back, stands that come again, the digest. */
public final class PlayTest {
    private static final String KINGS = "17 . . . ./-/-/-/. . . . 1";

    public static void main(String[] args) {
        goRefusals();
        backAndForth();
        backGivesAllBack();
        noMoveWithoutCheck();
        drawnStand();
        standsUnlikeByHands();
        standsUnlikeBySide();
        onlyChecks(0);
        onlyChecks(1);
        checksSinceItCameFirst();
        oneMoveWithoutCheck();
        bothSidesCheck();
        threeHundredMoves();
        playCalls();
        digests();
        Due.end();
    }

    private static void goAll(DropChase x, int promise, int due, int... fromTo) {
        for (int i = 0; i < fromTo.length; i += 2) {
            int state = x.go(Due.numberOf(x, fromTo[i], fromTo[i + 1], false));
            Due.due(promise, "go from " + fromTo[i] + " to " + fromTo[i + 1], state, i + 2 < fromTo.length ? 0 : due);
        }
    }

    private static void goRefusals() {
        DropChase x = Due.board(KINGS);
        Due.due(20, "no STAND", x.go(0), Due.STATE);
        Due.due(20, "no STAND, ahead of BAD", x.go(-1), Due.STATE);
        Due.due(9, "stand(0)", x.stand(0), 2);
        Due.due(20, "go(-1)", x.go(-1), Due.BAD);
        Due.due(20, "go(3)", x.go(3), Due.BAD);
        Due.due(20, "go(most)", x.go(Due.MOST), Due.BAD);
        Due.due(20, "go(2)", x.go(2), 0);
        Due.due(20, "the other SIDE", x.play(0), 1);
        Due.due(20, "its man", x.field(18), 1);
    }

    private static void backAndForth() {
        DropChase x = Due.board(KINGS);
        Due.due(21, "no STAND", x.back(), Due.STATE);
        Due.due(22, "no STAND", x.forth(), Due.STATE);
        Due.due(9, "stand(0)", x.stand(0), 2);
        Due.due(21, "no MOVE", x.back(), Due.STATE);
        Due.due(22, "no MOVE", x.forth(), Due.STATE);
        goAll(x, 20, 0, 24, 19, 0, 1, 19, 14);
        long then = x.digest();
        Due.due(21, "back()", x.back(), 2);
        Due.due(21, "back()", x.back(), 1);
        Due.due(21, "its man", x.field(0), 17);
        Due.due(21, "its man", x.field(1), 0);
        Due.due(23, "those that forth() can do", x.play(3), 2);
        Due.due(23, "MOVES", x.play(2), 1);
        Due.due(23, "SIDE", x.play(0), 1);
        Due.due(22, "forth()", x.forth(), 2);
        Due.due(22, "the one gone back over last", x.field(1), 17);
        Due.due(22, "forth()", x.forth(), 3);
        Due.due(22, "forth()", x.forth(), Due.STATE);
        Due.due(22, "as it was", x.digest(), then);
        x.back();
        x.back();
        goAll(x, 20, 0, 0, 5);
        Due.due(20, "what was gone back over is forgotten", x.forth(), Due.STATE);
        Due.due(23, "what was gone back over is forgotten", x.play(3), 0);
        Due.due(21, "back()", x.back(), 1);
        Due.due(22, "forth() does the new one", x.forth(), 2);
        Due.due(22, "forth() does the new one", x.field(5), 17);
    }

    /** A taking of a RAISED man, a RAISING, a SETTING, a KING's MOVE: each gone back over leaves all as it was. */
    private static void backGivesAllBack() {
        DropChase x = Due.board("17 . . . ./. . 3 . 26/. . . . 4/-/. . 2 . 1");
        x.hand(1, 2, 1);
        Due.due(9, "stand(0)", x.stand(0), 6);
        long first = x.digest();
        Due.due(20, "it takes", x.go(Due.numberOf(x, 14, 9, false)), 0);
        long second = x.digest();
        Due.due(12, "has(0, 1)", x.has(0, 1), 1);
        Due.due(20, "it is set", x.go(Due.numberOfSetting(x, 2, 13)), 0);
        long third = x.digest();
        Due.due(12, "has(1, 2)", x.has(1, 2), 0);
        Due.due(20, "it is RAISED", x.go(Due.numberOf(x, 7, 2, true)), 0);
        long fourth = x.digest();
        Due.due(11, "field(2)", x.field(2), 11);
        Due.due(20, "a KING goes", x.go(Due.numberOf(x, 0, 5, false)), 0);
        Due.due(21, "back()", x.back(), 3);
        Due.due(21, "a KING is back", x.field(0), 17);
        Due.due(14, "a KING is back", x.check(1), 0);
        x.go(Due.numberOf(x, 0, 5, false));
        x.back();
        x.back();
        Due.due(11, "not RAISED any more", x.field(7), 3);
        Due.due(11, "not there any more", x.field(2), 0);
        x.forth();
        x.back();
        x.back();
        Due.due(12, "has(1, 2)", x.has(1, 2), 1);
        x.back();
        Due.due(12, "has(0, 1)", x.has(0, 1), 0);
        Due.due(11, "it is RAISED again", x.field(9), 26);
        Due.due(11, "it is back", x.field(14), 4);
        Due.due(23, "four to do", x.play(3), 4);
        x.clear();
        x.stand(0);
        Due.due(37, "as at first", x.digest(), first);
        x.go(Due.numberOf(x, 14, 9, false));
        Due.due(37, "as then", x.digest(), second);
        x.go(Due.numberOfSetting(x, 2, 13));
        Due.due(37, "as then", x.digest(), third);
        x.go(Due.numberOf(x, 7, 2, true));
        Due.due(37, "as then", x.digest(), fourth);
    }

    /** The KING of SIDE 1 is not in CHECK, but has no MOVE. */
    private static void noMoveWithoutCheck() {
        DropChase x = new DropChase(5);
        x.kind(3, 0, 0, 0, 0, 0);
        Due.tell(x, "17 20 . . ./20 20 . . ./-/-/. . . . 1");
        Due.due(9, "stand(1)", x.stand(1), 5);
        Due.due(15, "moves()", x.moves(), 0);
        Due.due(14, "check(1)", x.check(1), 0);
        Due.due(23, "STATE at once", x.play(1), 1);
        Due.due(20, "go(0)", x.go(0), Due.BAD);
        Due.due(19, "rows(2)", x.rows(2), 0);
        Due.due(25, "hunt(3)", x.hunt(3), 0);
        x.clear();
        Due.due(9, "stand(0)", x.stand(0), 5);
        Due.due(20, "STATE 1 by a MOVE", x.go(0), 1);
        Due.due(23, "without CHECK", x.play(5), 0);
        Due.due(21, "back()", x.back(), 0);
        Due.due(23, "it goes on", x.play(1), 0);
    }

    private static void drawnStand() {
        DropChase x = Due.board(KINGS);
        Due.due(9, "stand(0)", x.stand(0), 2);
        for (int time = 2; time <= 4; time++) {
            goAll(x, 20, time == 4 ? 2 : 0, 24, 19, 0, 1, 19, 24, 1, 0);
            Due.due(23, "how often", x.play(4), time);
            Due.due(23, "STATE", x.play(1), time == 4 ? 2 : 0);
        }
        Due.due(15, "there are MOVES", x.moves(), 3);
        Due.due(20, "go(0)", x.go(0), Due.STATE);
        Due.due(20, "go(3), BAD ahead", x.go(3), Due.BAD);
        Due.due(19, "rows whatever the STATE", x.rows(2), 9);
        Due.due(21, "back()", x.back(), 11);
        Due.due(23, "how often", x.play(4), 3);
        Due.due(23, "STATE", x.play(1), 0);
        Due.due(22, "forth()", x.forth(), 12);
        Due.due(23, "STATE", x.play(1), 2);
        x.back();
        goAll(x, 20, 0, 1, 2);
        Due.due(23, "a new STAND", x.play(4), 1);
    }

    /** The BOARD and the SIDE to move come again, but not the HANDS: a man is set and taken on the way. */
    private static void standsUnlikeByHands() {
        DropChase x = Due.board(KINGS);
        x.hand(0, 3, 3);
        Due.due(9, "stand(0)", x.stand(0), 2);
        for (int time = 2; time <= 4; time++) {
            Due.due(20, "a man is set", x.go(Due.numberOfSetting(x, 3, 1)), 0);
            goAll(x, 20, 0, 0, 1, 24, 19, 1, 5, 19, 24, 5, 0);
            Due.due(11, "the BOARD is as it was", x.field(24) + x.field(0), 18);
            Due.due(23, "how often", x.play(4), 1);
        }
        Due.due(12, "has(1, 3)", x.has(1, 3), 3);
    }

    /** The same men on the BOARD, but the other SIDE is to move: another STAND. */
    private static void standsUnlikeBySide() {
        DropChase x = Due.board(KINGS);
        Due.due(9, "stand(0)", x.stand(0), 2);
        goAll(x, 20, 0, 24, 19, 0, 1, 19, 23, 1, 0, 23, 24);
        Due.due(11, "the BOARD is as it was", x.field(24) + x.field(0), 18);
        Due.due(23, "how often", x.play(4), 1);
        goAll(x, 20, 0, 0, 1, 24, 19, 1, 0);
        Due.due(23, "how often", x.play(4), 1);
        goAll(x, 20, 0, 19, 24);
        Due.due(23, "how often", x.play(4), 2);
    }

    /** A run man of a SIDE gives CHECK again and again; for SIDE 1 all is turned about. */
    private static void onlyChecks(int side) {
        DropChase x = side == 0 ? Due.board("17 . . . ./-/-/-/. 5 . . 1") : Due.board("17 . . 21 ./-/-/-/. . . . 1");
        Due.due(9, "stand", x.stand(side), 3);
        int turn = side == 0 ? 0 : 24;
        int[] f = {21, 20, 0, 1, 20, 21, 1, 0};
        for (int i = 0; i < 8; i++) f[i] = Math.abs(turn - f[i]);
        for (int time = 2; time <= 4; time++) {
            goAll(x, 20, time == 4 ? 3 + side : 0, f);
            Due.due(23, "the latest gave no CHECK", x.play(5), 0);
        }
        Due.due(23, "STATE", x.play(1), 3 + side);
        Due.due(20, "go(0)", x.go(0), Due.STATE);
        x.back();
        Due.due(23, "the latest gave CHECK", x.play(5), 1);
        Due.due(23, "STATE", x.play(1), 0);
    }

    /** MOVES without CHECK ahead of the STAND's first time do not count. */
    private static void checksSinceItCameFirst() {
        DropChase x = Due.board("17 . . . ./-/-/. 5 . . 1/-");
        Due.due(9, "stand(0)", x.stand(0), 3);
        goAll(x, 20, 0, 16, 21, 0, 5, 19, 24, 5, 0);
        for (int time = 2; time <= 4; time++) goAll(x, 20, time == 4 ? 3 : 0, 21, 20, 0, 1, 20, 21, 1, 0);
        DropChase y = Due.board("17 . . . ./-/-/. 5 . . 1/-");
        Due.due(9, "stand(0)", y.stand(0), 3);
        goAll(y, 20, 0, 16, 21, 0, 5, 19, 24);
        goAll(y, 20, 0, 5, 0, 21, 20, 0, 1, 20, 21, 1, 0, 21, 20);
        goAll(y, 20, 0, 0, 1, 20, 21, 1, 0, 21, 20, 0, 1, 20, 21);
        Due.due(23, "how often", y.play(4), 3);
        goAll(y, 20, 3, 1, 0);
    }

    /** One MOVE without CHECK between makes it DRAWN, as long as it lies behind the STAND's first time. */
    private static void oneMoveWithoutCheck() {
        DropChase x = Due.board("17 . . . ./-/-/-/. 5 . . 1");
        Due.due(9, "stand(0)", x.stand(0), 3);
        goAll(x, 20, 0, 24, 19, 0, 5, 19, 24, 5, 0);
        goAll(x, 20, 0, 21, 20, 0, 1, 20, 21, 1, 0);
        goAll(x, 20, 2, 21, 20, 0, 1, 20, 21, 1, 0);
        DropChase y = Due.board("-/17 . . . ./-/-/. 5 . . 1");
        Due.due(9, "stand(1)", y.stand(1), 3);
        goAll(y, 20, 0, 5, 0);
        goAll(y, 20, 0, 21, 22, 0, 1, 22, 21, 1, 0);
        goAll(y, 20, 0, 21, 20, 0, 1, 20, 21, 1, 0);
        goAll(y, 20, 2, 21, 20, 0, 1, 20, 21, 1, 0);
        DropChase z = Due.board("17 . . . ./-/-/-/. 5 . . 1");
        Due.due(9, "stand(0)", z.stand(0), 3);
        goAll(z, 20, 0, 21, 20, 0, 1, 20, 21, 1, 0);
        goAll(z, 20, 0, 21, 20, 0, 1, 20, 21, 1, 0);
        goAll(z, 20, 2, 21, 22, 0, 1, 22, 21, 1, 0);
    }

    /** Every MOVE of both SIDES gives CHECK: that of SIDE 0 counts first. */
    private static void bothSidesCheck() {
        DropChase x = new DropChase(7);
        x.kind(0, 68, 0, 0, 0, 0);
        Due.tell(x, "-/. . 23 23 . . ./. . . 17 . . ./. . 1 . . . ./. 6 . . 6 . ./-/-");
        Due.due(9, "stand(0)", x.stand(0), 6);
        for (int time = 2; time <= 4; time++) {
            goAll(x, 20, time == 4 ? 3 : 0, 23, 24, 17, 16, 24, 23, 16, 17);
            Due.due(23, "CHECK", x.play(5), 1);
        }
    }

    private static void threeHundredMoves() {
        Pair pair = new Pair("300 MOVES", 7);
        pair.call("line", 0, 0, 7);
        pair.call("put", 0, 0, 0, 17);
        pair.call("line", 6, 0, 7);
        pair.call("put", 6, 0, 6, 1);
        Due.due(9, "stand(0)", pair.call("stand", 0), 2);
        int wrong = 0;
        for (int i = 0; i < 300; i++) {
            if (pair.call("go", Walk.firstThatIsNew(pair.model)) != 0) wrong++;
        }
        Due.due(20, "answers unlike the model's", Pair.wrong, 0);
        DropChase x = pair.program;
        Due.due(20, "MOVES that did not go on", wrong, 0);
        Due.due(23, "MOVES", x.play(2), 300);
        Due.due(20, "the 301st", x.go(0), Due.FULL);
        Due.due(20, "BAD ahead", x.go(99), Due.BAD);
        Due.due(21, "back()", x.back(), 299);
        Due.due(22, "forth()", x.forth(), 300);
        Due.due(31, "write()", x.write(), 1499);
        Due.due(35, "read()", x.read(), 300);
        x.back();
        Due.due(20, "the 300th again", x.go(0), 0);
        Due.due(20, "the 301st", x.go(0), Due.FULL);
        Due.due(31, "write()", x.write(), 1499);
        int from = x.move(0, 0);
        int to = x.move(0, 1);
        Due.type(x, " " + "abcdefg".charAt(from % 7) + (1 + from / 7) + "abcdefg".charAt(to % 7) + (1 + to / 7));
        Due.due(35, "the 301st", x.read(), -1600);
        Due.due(35, "THE PLAY stays", x.play(2), 300);
        Due.due(10, "clear()", x.clear(), 300);
    }

    private static void playCalls() {
        DropChase x = Due.board(KINGS);
        Due.due(23, "no STAND", x.play(0), Due.STATE);
        Due.due(23, "BAD ahead", x.play(6), Due.BAD);
        Due.due(9, "stand(1)", x.stand(1), 2);
        int[] due = {1, 0, 0, 0, 1, 0};
        for (int what = 0; what < 6; what++) Due.due(23, "play(" + what + ")", x.play(what), due[what]);
        Due.due(23, "play(-1)", x.play(-1), Due.BAD);
        Due.due(23, "play(6)", x.play(6), Due.BAD);
        DropChase y = Due.board("17 . . . ./-/-/-/1 . . . 21");
        Due.due(9, "in CHECK from the beginning", y.stand(0), 3);
        Due.due(14, "check(0)", y.check(0), 1);
        Due.due(23, "no latest MOVE", y.play(5), 0);
    }

    private static long digestOf(int n, DropChase x, boolean standing) {
        long h = 17;
        for (int f = 0; f < n * n; f++) h = 31 * h + (standing ? x.field(f) : 0);
        for (int side = 0; side < 2; side++) {
            for (int kind = 1; kind <= 7; kind++) h = 31 * h + x.has(side, kind);
        }
        for (int what = 0; what <= 4; what++) h = 31 * h + (standing ? x.play(what) : 0);
        return h;
    }

    private static void digests() {
        for (int n = 5; n <= 7; n++) {
            DropChase x = new DropChase(n);
            Due.due(37, "new", x.digest(), digestOf(n, x, false));
            for (int kind = 1; kind < 8; kind++) {
                x.hand(0, kind, kind);
                x.hand(1, kind, 9 - kind);
            }
            Due.due(37, "HANDS told", x.digest(), digestOf(n, x, false));
            for (int r = 0; r < n; r++) x.line(r, r % 3, n);
            x.put(0, 0, 0, 17);
            x.put(n - 2, (n - 2) % 3, n - 1, 1);
            x.put(2, 2, 2, 10);
            x.put(2, 2, 4, 20);
            Due.due(9, "stand(0)", x.stand(0), 4);
            Due.due(37, "a STAND", x.digest(), digestOf(n, x, true));
            for (int i = 0; i < 6; i++) {
                x.go(i);
                Due.due(37, "a MOVE", x.digest(), digestOf(n, x, true));
            }
            x.back();
            Due.due(37, "back()", x.digest(), digestOf(n, x, true));
            x.clear();
            Due.due(37, "clear()", x.digest(), digestOf(n, x, false));
        }
        long zeros = 17;
        for (int i = 0; i < 25 + 14 + 5; i++) zeros *= 31;
        Due.due(37, "zeros alone", new DropChase(5).digest(), zeros);
    }
}
