/** Promises 31 to 35: plays as texts. */
public final class TextTest {
    private static final String BOARD = "17 . . . ./. . 2 . ./. . . . 20/. . . . 4/. . . . 1";

    public static void main(String[] args) {
        writeCalls();
        typeCalls();
        readDoesMoves();
        readRefusesWhatIsNotWrittenSo();
        readTellsThePlace();
        readLeavesThePlay();
        readForgetsThePlay();
        readEndsWithTheState();
        readEndsWithTheFourthStand();
        lettersOfSeven();
        manyBytes();
        Due.end();
    }

    private static DropChase desk() {
        DropChase x = Due.board(BOARD);
        x.hand(1, 2, 1);
        Due.due(9, "stand(0)", x.stand(0), 5);
        return x;
    }

    private static void textIs(int promise, DropChase x, String due) {
        String got = Due.text(x);
        Due.due(promise, "THE TEXT '" + got + "' for '" + due + "'", got.equals(due) ? 1 : 0, 1);
    }

    private static void writeCalls() {
        DropChase x = Due.board(BOARD);
        Due.due(31, "no STAND", x.write(), Due.STATE);
        x = desk();
        Due.type(x, "abc");
        Due.due(31, "no MOVES", x.write(), 0);
        Due.due(34, "letter(0)", x.letter(0), Due.NONE);
        x.go(Due.numberOf(x, 7, 2, true));
        Due.due(31, "a RAISING", x.write(), 5);
        textIs(31, x, "c2c1+");
        x.go(Due.numberOfSetting(x, 2, 5));
        x.go(Due.numberOf(x, 19, 14, false));
        x.go(Due.numberOf(x, 0, 6, false));
        Due.due(31, "all kinds of MOVES", x.write(), 20);
        textIs(31, x, "c2c1+ 2*a2 e4e3 a1b2");
        Due.due(31, "again", x.write(), 20);
        x.back();
        Due.due(31, "what was gone back over is not of it", x.write(), 15);
        textIs(31, x, "c2c1+ 2*a2 e4e3");
        Due.due(23, "it can be done again", x.play(3), 1);
        Due.due(34, "letter(4)", x.letter(4), '+');
        Due.due(34, "letter(5)", x.letter(5), 32);
        Due.due(34, "letter(14)", x.letter(14), '3');
        Due.due(34, "letter(15)", x.letter(15), Due.NONE);
        Due.due(34, "letter(-1)", x.letter(-1), Due.NONE);
        Due.due(34, "letter(most)", x.letter(Due.MOST), Due.NONE);
        x.clear();
        Due.due(33, "it stays behind clear()", x.wipe(), 15);
        Due.due(33, "wipe() again", x.wipe(), 0);
        Due.due(34, "letter(0)", x.letter(0), Due.NONE);
    }

    private static void typeCalls() {
        DropChase x = new DropChase(5);
        Due.due(32, "type(0)", x.type(0), 1);
        Due.due(32, "type(255)", x.type(255), 2);
        Due.due(32, "type(-1)", x.type(-1), Due.BAD);
        Due.due(32, "type(256)", x.type(256), Due.BAD);
        Due.due(32, "type(128)", x.type(128), 3);
        Due.due(34, "letter(0)", x.letter(0), 0);
        Due.due(34, "letter(1)", x.letter(1), 255);
        Due.due(34, "letter(2)", x.letter(2), 128);
        Due.due(33, "wipe()", x.wipe(), 3);
        Due.due(32, "type(65)", x.type(65), 1);
    }

    private static int readOf(DropChase x, String s) {
        x.wipe();
        Due.type(x, s);
        return x.read();
    }

    private static void readDoesMoves() {
        DropChase x = desk();
        Due.due(35, "four MOVES", readOf(x, "c2c1+ 2*a2 e4e3 a1b2"), 4);
        Due.due(23, "MOVES", x.play(2), 4);
        Due.due(11, "field(2)", x.field(2), 10);
        Due.due(11, "field(5)", x.field(5), 19);
        Due.due(11, "field(14)", x.field(14), 4);
        Due.due(11, "field(6)", x.field(6), 17);
        Due.due(12, "has(0, 3)", x.has(0, 3), 1);
        Due.due(12, "has(1, 2)", x.has(1, 2), 0);
        Due.due(21, "they can be gone back over", x.back(), 3);
        Due.due(22, "and done again", x.forth(), 4);
        long then = x.digest();
        Due.due(31, "write()", x.write(), 20);
        Due.due(35, "what was written", x.read(), 4);
        Due.due(37, "as it was", x.digest(), then);
        Due.due(35, "from the beginning", readOf(x, "c2c1+"), 1);
        Due.due(23, "MOVES", x.play(2), 1);
        Due.due(15, "the other SIDE's MOVES", x.move(0, 3), 0);
        Due.due(35, "an empty one", readOf(x, ""), 0);
        Due.due(23, "MOVES", x.play(2), 0);
        Due.due(23, "nothing for forth()", x.play(3), 0);
        Due.due(11, "as at first", x.field(7), 2);
        x.clear();
        Due.due(35, "no STAND", x.read(), Due.STATE);
    }

    private static void readRefusesWhatIsNotWrittenSo() {
        DropChase x = desk();
        String[] ill = {
            " ", "c", "c2c", "c2c1", "c2c1+ ", " c2c1+", "c2c1+  2*a2", "c2c1++", "c2c1-", "C2C1+", "c2c1+\u0000",
            "e4e3+", "e4e30", "e4f3", "e4e0", "e4e6", "f4e3", "e0e3", "e6e3", "e4e3e", "e4 e3", "2*a2", "3*a3",
            "0*a2", "8*a2", "**a2", "e4*a", "a1a2", "e5e4", "e4\u00ffe3", "e4e3\n", "\u00e54e3", "`5e3", "e4`4"};
        for (String s : ill) {
            int place = s.startsWith("c2c1+ ") ? 6 : 0;
            Due.due(35, "'" + s + "'", readOf(x, s), -100 - place);
            Due.due(23, "THE PLAY stays", x.play(2), 0);
        }
        String[] illSet = {"2*a2+", "2*a6", "2*f2", "2*a", "22*a2", "2*A2", "2+a2", "2*a22", "7*a2", "2*e5"};
        for (String s : illSet) Due.due(35, "'" + s + "'", readOf(x, "c2c1+ " + s), -106);
        Due.due(35, "a SETTING", readOf(x, "c2c1+ 2*a2"), 2);
    }

    private static void readTellsThePlace() {
        DropChase x = desk();
        Due.due(35, "the first", readOf(x, "x e4e3"), -100);
        Due.due(35, "the second", readOf(x, "e4e3 x"), -105);
        Due.due(35, "nothing at the end", readOf(x, "e4e3 "), -105);
        Due.due(35, "nothing between", readOf(x, "e4e3  a1a2"), -105);
        Due.due(35, "behind a RAISING", readOf(x, "c2c1+ a1a2 "), -111);
        Due.due(35, "not the last", readOf(x, "c2c1+ a1a2 e4e2 a2a1"), -111);
        Due.due(35, "the same man twice", readOf(x, "e4e3 e3e2"), -105);
    }

    private static void readLeavesThePlay() {
        DropChase x = desk();
        Due.due(35, "two MOVES", readOf(x, "e4e3 a1b1"), 2);
        Due.due(20, "a third", x.go(0), 0);
        x.back();
        x.back();
        long then = x.digest();
        int moves = x.moves();
        Due.due(35, "ill at the third", readOf(x, "c2c1+ 2*a2 e5e5"), -111);
        Due.due(37, "as it was", x.digest(), then);
        Due.due(15, "moves()", x.moves(), moves);
        Due.due(16, "its MOVES", x.move(0, 0), 0);
        Due.due(23, "for forth()", x.play(3), 2);
        Due.due(22, "forth()", x.forth(), 2);
        Due.due(11, "as it was", x.field(1), 17);
        Due.due(22, "forth()", x.forth(), 3);
        Due.due(35, "ill at the first", readOf(x, "?"), -100);
        Due.due(23, "MOVES", x.play(2), 3);
        Due.due(21, "back()", x.back(), 2);
        Due.due(21, "back()", x.back(), 1);
        Due.due(21, "back()", x.back(), 0);
        Due.due(11, "as at first", x.field(14), 20);
        Due.due(34, "THE TEXT stays", x.letter(0), '?');
    }

    private static void readForgetsThePlay() {
        DropChase x = desk();
        x.go(0);
        x.go(0);
        x.go(0);
        x.back();
        Due.due(35, "one MOVE", readOf(x, "e4e3"), 1);
        Due.due(23, "MOVES", x.play(2), 1);
        Due.due(23, "for forth()", x.play(3), 0);
        Due.due(22, "forth()", x.forth(), Due.STATE);
        Due.due(35, "three MOVES", readOf(x, "e4e3 a1b1 e5e4"), 3);
        Due.due(35, "one MOVE", readOf(x, "c2c1+"), 1);
        Due.due(21, "back()", x.back(), 0);
        Due.due(22, "forth()", x.forth(), 1);
        Due.due(11, "field(2)", x.field(2), 10);
    }

    private static void readEndsWithTheState() {
        DropChase x = Due.board("17 . . . . ./. . 1 . . ./. 6 . . . ./-/-/-");
        x.hand(0, 3, 1);
        Due.due(9, "stand(0)", x.stand(0), 3);
        Due.due(35, "MATE", readOf(x, "3*a2"), 1);
        Due.due(23, "STATE", x.play(1), 1);
        Due.due(35, "behind MATE", readOf(x, "3*a2 a1b1"), -105);
        Due.due(35, "MATE and a 32", readOf(x, "3*a2 "), -105);
        Due.due(23, "THE PLAY stays", x.play(2), 1);
        x.clear();
        x.hand(0, 1, 1);
        Due.due(9, "stand(0)", x.stand(0), 3);
        Due.due(35, "MATE that MARK 2 forbids", readOf(x, "1*a2"), -100);
        Due.due(35, "MATE", readOf(x, "3*a2"), 1);
    }

    private static void readEndsWithTheFourthStand() {
        DropChase x = Due.board("17 . . . ./-/-/-/. . . . 1");
        Due.due(9, "stand(0)", x.stand(0), 2);
        String round = "e5e4 a1b1 e4e5 b1a1 ";
        String all = round + round + round;
        Due.due(35, "up to the fourth time", readOf(x, all.trim()), 12);
        Due.due(23, "STATE", x.play(1), 2);
        Due.due(23, "how often", x.play(4), 4);
        Due.due(35, "behind it", readOf(x, all + "e5e4"), -160);
        Due.due(23, "THE PLAY stays", x.play(2), 12);
        Due.due(35, "one less", readOf(x, all.substring(0, 54)), 11);
        Due.due(20, "go on", x.go(0), 0);
    }

    private static void lettersOfSeven() {
        DropChase x = Due.board(". . . . . . ./-/-/17 . . . . . 1/-/-/. . . . . . .");
        Due.due(9, "stand(0)", x.stand(0), 2);
        Due.due(35, "up to g and 7", readOf(x, "g4g5 a4a3 g5g6 a3a2 g6g7 a2a1"), 6);
        Due.due(11, "field(48)", x.field(48), 1);
        Due.due(11, "field(0)", x.field(0), 17);
        Due.due(31, "write()", x.write(), 29);
        textIs(31, x, "g4g5 a4a3 g5g6 a3a2 g6g7 a2a1");
        Due.due(35, "h", readOf(x, "g4h5"), -100);
        Due.due(35, "8", readOf(x, "g4g5 a4a3 g5g6 a3a2 g6g7 a2a1 g7g8"), -130);
    }

    /** 2000 bytes cannot be there within the 512 calls that an object is used for; the limit holds all the same. */
    private static void manyBytes() {
        DropChase x = new DropChase(5);
        for (int i = 0; i < 2000; i++) Due.due(32, "type()", x.type('x'), i + 1);
        Due.due(32, "the 2001st", x.type('x'), Due.FULL);
        Due.due(32, "BAD ahead", x.type(256), Due.BAD);
        Due.due(34, "letter(1999)", x.letter(1999), 'x');
        Due.due(33, "wipe()", x.wipe(), 2000);
    }
}
