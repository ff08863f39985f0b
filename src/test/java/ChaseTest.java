/** Promises 24 to 30: chases, their fuel, their trees. */
public final class ChaseTest {
    /** MATE in 3: KIND 4 is set far off, three SETTINGS between answer it; the cost over k = 1, 2, 3 is 83. */
    private static final String IN_THREE = ". . . . 17/-/. 20 . 1 ./-/. 3 . . .";
    private static final int[][] TREE = {
        {-1, -1, 0, 0, 4, 0, 8},
        {0, -1, 1, 0, 3, 1, 1},
        {1, 0, 1, 0, -1, 2, 0},
        {0, -1, 2, 0, 3, 1, 1},
        {3, 0, 2, 0, -1, 2, 0},
        {0, -1, 3, 0, 3, 1, 3},
        {5, 0, 3, 0, -1, 2, 2},
        {6, 4, 3, 0, -1, 3, 1},
        {7, -1, 8, 0, 3, 4, 0}};

    public static void main(String[] args) {
        fuelCalls();
        huntRefusals();
        mateInOne();
        costsOfTheFirstHunt();
        mateInThree();
        treeOfThree();
        raisingChase();
        mateInFour();
        fuelIsSpent();
        fullTrees();
        treeStays();
        treeGoes();
        huntWhateverTheState();
        forgeRefusals();
        forgedNodes();
        verifyFindsTheFirst();
        verifyOnOtherStands();
        Due.end();
    }

    private static DropChase inThree() {
        DropChase x = Due.board(IN_THREE);
        x.hand(0, 4, 1);
        x.hand(1, 3, 1);
        Due.due(9, "stand(0)", x.stand(0), 4);
        return x;
    }

    private static void fuelCalls() {
        DropChase x = new DropChase(5);
        Due.due(24, "fuel(1)", x.fuel(1), 500);
        Due.due(24, "fuel(1000)", x.fuel(1000), 1);
        Due.due(24, "fuel(0)", x.fuel(0), Due.BAD);
        Due.due(24, "fuel(1001)", x.fuel(1001), Due.BAD);
        Due.due(24, "fuel(-1)", x.fuel(-1), Due.BAD);
        Due.due(24, "fuel(7)", x.fuel(7), 1000);
        Due.tell(x, IN_THREE);
        x.stand(0);
        Due.due(24, "with a STAND", x.fuel(8), 7);
        x.clear();
        Due.due(24, "it stays", x.fuel(9), 8);
    }

    private static void huntRefusals() {
        DropChase x = Due.board(IN_THREE);
        Due.due(25, "no STAND", x.hunt(1), Due.STATE);
        Due.due(25, "BAD ahead", x.hunt(0), Due.BAD);
        Due.due(25, "BAD ahead", x.hunt(5), Due.BAD);
        Due.due(26, "spent()", x.spent(), 0);
        x.stand(0);
        Due.due(25, "hunt(0)", x.hunt(0), Due.BAD);
        Due.due(25, "hunt(5)", x.hunt(5), Due.BAD);
        Due.due(25, "hunt(-1)", x.hunt(-1), Due.BAD);
        Due.due(25, "hunt(4)", x.hunt(4), 0);
        Due.due(30, "no TREE", x.verify(), Due.STATE);
        Due.due(28, "no TREE", x.node(0, 0), Due.BAD);
        Due.due(29, "no TREE", x.forge(0, 0, 1, false, 1), Due.BAD);
    }

    private static void mateInOne() {
        DropChase x = Due.board("17 . . . . ./. . 1 . . ./. 6 . . . ./-/-/-");
        x.hand(0, 1, 1);
        x.hand(0, 3, 1);
        Due.due(9, "stand(0)", x.stand(0), 3);
        Due.due(25, "not by KIND 1, which has MARK 2", x.hunt(1), 1);
        Due.due(27, "tree()", x.tree(), 1);
        int[] due = {-1, -1, 1, 0, 3, 0, 0};
        for (int what = 0; what < 7; what++) Due.due(28, "node(0, " + what + ")", x.node(0, what), due[what]);
        Due.due(30, "verify()", x.verify(), 0);
        x.clear();
        Due.due(2, "without MARKS", x.kind(1, 1, 0, 215, 0, 0), 1);
        Due.due(9, "stand(0)", x.stand(0), 3);
        Due.due(25, "by KIND 1, the first", x.hunt(4), 1);
        Due.due(28, "node(0, 4)", x.node(0, 4), 1);
        Due.due(23, "nothing has changed", x.play(2), 0);
    }

    /** One CHECK, answered at once: two MOVES at a cost for k = 1, for k = 2 as many again and no CHECK then. */
    private static void costsOfTheFirstHunt() {
        DropChase x = new DropChase(5);
        x.kind(4, 0, 1, 0, 0, 0);
        Due.tell(x, "17 . . . ./-/-/-/. 5 . . 1");
        Due.due(9, "stand(0)", x.stand(0), 3);
        Due.due(25, "no CHECK", x.hunt(4), 0);
        Due.due(26, "spent()", x.spent(), 0);
        x.clear();
        x.kind(4, 64, 1, 0, 0, 0);
        Due.tell(x, "17 . . . ./-/-/. 2 . . ./. 5 . . 1");
        Due.due(9, "stand(0)", x.stand(0), 4);
        Due.due(25, "hunt(1)", x.hunt(1), 0);
        Due.due(26, "the CHECK and its first answer", x.spent(), 2);
        Due.due(25, "hunt(2)", x.hunt(2), 0);
        Due.due(26, "again, over all k together", x.spent(), 4);
        Due.due(24, "fuel(2)", x.fuel(2), 500);
        Due.due(25, "hunt(1)", x.hunt(1), 0);
        Due.due(25, "hunt(2)", x.hunt(2), Due.SPENT);
        Due.due(26, "spent()", x.spent(), 2);
        x.fuel(1);
        Due.due(25, "an answer ahead of a HUNT 0 costs", x.hunt(1), Due.SPENT);
        Due.due(26, "spent()", x.spent(), 1);
    }

    private static void mateInThree() {
        DropChase x = inThree();
        long then = x.digest();
        Due.due(25, "hunt(1)", x.hunt(1), 0);
        Due.due(27, "tree()", x.tree(), 0);
        Due.due(25, "hunt(2)", x.hunt(2), 0);
        Due.due(25, "hunt(3)", x.hunt(3), 3);
        Due.due(26, "spent()", x.spent(), 83);
        Due.due(25, "hunt(4): the least", x.hunt(4), 3);
        Due.due(26, "spent()", x.spent(), 83);
        Due.due(37, "nothing has changed", x.digest(), then);
    }

    private static void treeOfThree() {
        DropChase x = inThree();
        x.hunt(3);
        Due.due(27, "tree()", x.tree(), TREE.length);
        for (int i = 0; i < TREE.length; i++) {
            for (int what = 0; what < 7; what++) {
                Due.due(28, "node(" + i + ", " + what + ")", x.node(i, what), TREE[i][what]);
            }
            Due.due(28, "node(" + i + ", -1)", x.node(i, -1), Due.BAD);
            Due.due(28, "node(" + i + ", 7)", x.node(i, 7), Due.BAD);
        }
        Due.due(28, "node(-1, 0)", x.node(-1, 0), Due.BAD);
        Due.due(28, "node(9, 0)", x.node(9, 0), Due.BAD);
        Due.due(30, "verify()", x.verify(), 0);
    }

    private static void raisingChase() {
        DropChase x = Due.board("-/. 1 . . ./. . . 17 8/5 5 . . ./-");
        x.hand(0, 3, 1);
        x.hand(0, 7, 1);
        Due.due(9, "stand(0)", x.stand(0), 5);
        Due.due(25, "hunt(3)", x.hunt(3), 3);
        Due.due(26, "spent()", x.spent(), 253);
        int[][] due = {
            {-1, 15, 10, 0, -1, 0, 10}, {0, 13, 8, 0, -1, 1, 5}, {1, 16, 18, 0, -1, 2, 4}, {2, 8, 4, 0, -1, 3, 1},
            {3, 18, 3, 1, -1, 4, 0}, {2, 8, 9, 0, -1, 3, 1}, {5, 18, 3, 1, -1, 4, 0}, {0, 13, 9, 0, -1, 1, 3},
            {7, -1, 13, 0, 3, 2, 2}, {8, 9, 4, 0, -1, 3, 1}, {9, 10, 0, 0, -1, 4, 0}};
        Due.due(27, "tree()", x.tree(), due.length);
        for (int i = 0; i < due.length; i++) {
            for (int what = 0; what < 7; what++) {
                Due.due(28, "node(" + i + ", " + what + ")", x.node(i, what), due[i][what]);
            }
        }
        Due.due(29, "without RAISING", x.forge(4, 18, 3, false, 0), 1);
        Due.due(30, "it is no MATE then", x.verify(), 5);
    }

    private static void mateInFour() {
        DropChase x = Due.board("6 20 . 21 ./21 . . 2 1/-/. 17 . 4 ./. . 8 . .");
        x.hand(0, 5, 2);
        int[] kinds = {1, 2, 3, 5, 6};
        for (int kind : kinds) x.hand(1, kind, 1);
        Due.due(9, "stand(0)", x.stand(0), 9);
        Due.due(24, "fuel(1000)", x.fuel(1000), 500);
        Due.due(25, "hunt(3)", x.hunt(3), 0);
        Due.due(25, "hunt(4)", x.hunt(4), 4);
        Due.due(26, "spent()", x.spent(), 761);
        Due.due(27, "tree()", x.tree(), 49);
        Due.due(30, "verify()", x.verify(), 0);
        int deepest = 0;
        for (int i = 0; i < 49; i++) deepest = Math.max(deepest, x.node(i, 5));
        Due.due(28, "the deepest NODE", deepest, 6);
        Due.due(28, "NODES in the first", x.node(0, 6), 48);
    }

    private static void fuelIsSpent() {
        DropChase x = inThree();
        x.fuel(83);
        Due.due(25, "just enough", x.hunt(3), 3);
        Due.due(26, "spent()", x.spent(), 83);
        x.fuel(82);
        Due.due(27, "tree() stays", x.tree(), 9);
        Due.due(25, "one too few", x.hunt(3), Due.SPENT);
        Due.due(26, "spent()", x.spent(), 82);
        Due.due(27, "no TREE", x.tree(), 0);
        x.fuel(1000);
        Due.due(26, "spent() is of then", x.spent(), 82);
        Due.due(25, "hunt(5)", x.hunt(5), Due.BAD);
        Due.due(26, "BAD does not count", x.spent(), 82);
        x.clear();
        Due.due(25, "hunt(1)", x.hunt(1), Due.STATE);
        Due.due(26, "STATE does not count", x.spent(), 82);
    }

    /** KIND 4 runs at a KING shut in by men that go nowhere; what is set between is taken, one after the other. */
    private static DropChase corridor(String rows, int... hand) {
        DropChase x = new DropChase(7);
        x.kind(7, 0, 0, 0, 0, 0);
        x.kind(6, 256, 0, 0, 0, 0);
        Due.tell(x, rows);
        for (int kind = 1; kind < 7; kind++) x.hand(1, kind, hand[kind - 1]);
        x.fuel(1000);
        return x;
    }

    private static void fullTrees() {
        DropChase x = corridor("17 . . . . . ./24 24 18 . 5 . ./7 . . 19 . . ./-/-/-/. . . . . . 1", 1, 2, 1, 3, 1, 2);
        Due.due(9, "stand(0)", x.stand(0), 8);
        Due.due(25, "499 NODES", x.hunt(4), 4);
        Due.due(27, "tree()", x.tree(), 499);
        Due.due(26, "spent()", x.spent(), 545);
        Due.due(30, "verify()", x.verify(), 0);
        Due.due(28, "NODES in the first", x.node(0, 6), 498);
        Due.due(29, "the last one", x.forge(498, 0, 0, false, 0), 1);
        Due.due(30, "verify()", x.verify(), 499);
        DropChase y = corridor("17 . . . . . ./24 24 . . 5 . ./7 . . . . . ./-/-/-/. . . 18 . . 1", 1, 1, 2, 3, 1, 3);
        Due.due(9, "stand(0)", y.stand(0), 7);
        Due.due(25, "501 NODES", y.hunt(4), Due.FULL);
        Due.due(27, "no TREE", y.tree(), 0);
        Due.due(26, "spent()", y.spent(), 625);
        Due.due(30, "verify()", y.verify(), Due.STATE);
        DropChase z = corridor("17 . . . . . ./24 24 . . 5 . ./7 . . . . . ./-/-/-/. . . . . . 1", 3, 3, 3, 3, 3, 3);
        Due.due(9, "stand(0)", z.stand(0), 6);
        Due.due(25, "685 NODES", z.hunt(4), Due.FULL);
        Due.due(26, "spent()", z.spent(), 777);
        Due.due(25, "hunt(3)", z.hunt(3), 0);
    }

    private static void treeStays() {
        DropChase x = inThree();
        x.hunt(3);
        x.go(0);
        x.go(0);
        Due.due(27, "behind go()", x.tree(), 9);
        Due.due(25, "hunt(0)", x.hunt(0), Due.BAD);
        Due.due(27, "behind a BAD hunt()", x.tree(), 9);
        x.back();
        x.write();
        x.read();
        Due.due(27, "behind read()", x.tree(), 9);
        Due.due(28, "as it was", x.node(8, 2), 8);
    }

    private static void treeGoes() {
        DropChase x = inThree();
        x.hunt(3);
        Due.due(25, "hunt(1)", x.hunt(1), 0);
        Due.due(27, "no TREE behind 0", x.tree(), 0);
        x.hunt(3);
        Due.due(27, "tree()", x.tree(), 9);
        x.clear();
        Due.due(27, "no TREE behind clear()", x.tree(), 0);
        Due.due(30, "verify()", x.verify(), Due.STATE);
        Due.due(28, "node(0, 0)", x.node(0, 0), Due.BAD);
        x.stand(0);
        Due.due(27, "nor with a new STAND", x.tree(), 0);
        Due.due(30, "verify()", x.verify(), Due.STATE);
    }

    /** STANDS of the PLAY do not count: there is a MATE, though the PLAY is at its end. */
    private static void huntWhateverTheState() {
        DropChase x = Due.board("17 . . . ./. . . . ./. 1 . . ./-/. . . . 5");
        x.hand(0, 3, 1);
        Due.due(9, "stand(0)", x.stand(0), 3);
        for (int time = 2; time <= 4; time++) {
            x.go(Due.numberOf(x, 24, 23, false));
            x.go(Due.numberOf(x, 0, 1, false));
            x.go(Due.numberOf(x, 23, 24, false));
            Due.due(20, "to and fro", x.go(Due.numberOf(x, 1, 0, false)), time == 4 ? 2 : 0);
        }
        Due.due(25, "hunt(1)", x.hunt(1), 1);
        Due.due(30, "verify()", x.verify(), 0);
    }

    private static void forgeRefusals() {
        DropChase x = inThree();
        x.hunt(3);
        Due.due(29, "NODE -1", x.forge(-1, 0, 1, false, 1), Due.BAD);
        Due.due(29, "NODE 9", x.forge(9, 0, 1, false, 1), Due.BAD);
        Due.due(29, "from -2", x.forge(0, -2, 1, false, 1), Due.BAD);
        Due.due(29, "from 25", x.forge(0, 25, 1, false, 1), Due.BAD);
        Due.due(29, "to -1", x.forge(0, 0, -1, false, 1), Due.BAD);
        Due.due(29, "to 25", x.forge(0, 0, 25, false, 1), Due.BAD);
        Due.due(29, "set to -1", x.forge(0, -1, -1, false, 1), Due.BAD);
        Due.due(29, "set to 25", x.forge(0, -1, 25, false, 1), Due.BAD);
        Due.due(29, "set RAISED", x.forge(0, -1, 1, true, 1), Due.BAD);
        Due.due(29, "set KIND 0", x.forge(0, -1, 1, false, 0), Due.BAD);
        Due.due(29, "set KIND 8", x.forge(0, -1, 1, false, 8), Due.BAD);
        Due.due(29, "set KIND -1", x.forge(0, -1, 1, false, -1), Due.BAD);
        for (int i = 0; i < 9; i++) Due.due(29, "nothing has changed", x.node(i, 2), TREE[i][2]);
        Due.due(30, "verify()", x.verify(), 0);
    }

    private static void forgedNodes() {
        DropChase x = inThree();
        x.hunt(3);
        Due.due(29, "a GOING, whatever the KIND", x.forge(5, 24, 0, true, 99), 1);
        int[] going = {0, 24, 0, 1, -1, 1, 3};
        for (int what = 0; what < 7; what++) Due.due(29, "node(5, " + what + ")", x.node(5, what), going[what]);
        Due.due(29, "a SETTING", x.forge(5, -1, 24, false, 7), 1);
        int[] setting = {0, -1, 24, 0, 7, 1, 3};
        for (int what = 0; what < 7; what++) Due.due(29, "node(5, " + what + ")", x.node(5, what), setting[what]);
        Due.due(29, "to where it stands", x.forge(5, 3, 3, false, -5), 1);
        Due.due(28, "node(5, 4)", x.node(5, 4), Due.NONE);
        Due.due(27, "tree()", x.tree(), 9);
    }

    private static void restore(DropChase x, int i) {
        x.forge(i, TREE[i][1], TREE[i][2], TREE[i][3] == 1, TREE[i][4]);
    }

    private static void verifyFindsTheFirst() {
        DropChase x = inThree();
        x.hunt(3);
        for (int i = 0; i < 9; i++) {
            x.forge(i, 24, 24, false, 0);
            Due.due(30, "NODE " + i + " is no MOVE", x.verify(), i + 1);
            restore(x, i);
            Due.due(30, "as it was", x.verify(), 0);
        }
        x.forge(0, 13, 12, false, 0);
        Due.due(30, "no MOVE: CHECK behind it", x.verify(), 1);
        x.forge(0, 21, 15, false, 0);
        Due.due(30, "a MOVE that gives no CHECK", x.verify(), 1);
        x.forge(0, -1, 1, false, 4);
        Due.due(30, "a CHECK with other answers: not as many", x.verify(), 1);
        restore(x, 0);
        x.forge(3, -1, 3, false, 3);
        Due.due(30, "an answer, but not the one that is due", x.verify(), 4);
        x.forge(5, -1, 2, false, 3);
        Due.due(30, "the first of two", x.verify(), 4);
        restore(x, 3);
        Due.due(30, "the second of two", x.verify(), 6);
        restore(x, 5);
        x.forge(8, -1, 9, false, 3);
        Due.due(30, "a CHECK that is no MATE", x.verify(), 9);
        restore(x, 8);
        x.forge(6, 0, 3, true, 0);
        Due.due(30, "another MOVE that does as well", x.verify(), 0);
        x.forge(2, 0, 1, true, 0);
        Due.due(30, "another MOVE that does as well", x.verify(), 0);
    }

    private static void verifyOnOtherStands() {
        DropChase x = inThree();
        x.hunt(3);
        x.go(0);
        Due.due(30, "the other SIDE is to move", x.verify(), 1);
        x.back();
        Due.due(30, "verify()", x.verify(), 0);
        x.go(Due.numberOf(x, 21, 15, false));
        x.go(Due.numberOf(x, 11, 10, false));
        Due.due(30, "another STAND on which it holds", x.verify(), 0);
        x.back();
        x.go(Due.numberOfSetting(x, 3, 24));
        Due.due(30, "the answers are others", x.verify(), 1);
    }
}
