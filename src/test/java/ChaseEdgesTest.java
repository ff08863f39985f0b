/** Promises 24 to 30, section 4: each sentence that names a boundary case. */
public final class ChaseEdgesTest {
    /** MATE in 3, at a cost of 83; its TREE of 9 NODES is told in ChaseTest. */
    private static final String[] IN_THREE = {"board(. . . . 17/-/. 20 . 1 ./-/. 3 . . .)", "hand(0, 4, 1) = 0",
        "hand(1, 3, 1) = 0", "stand(0) = 4"};
    private static final String[] WITH_TREE = {"board(. . . . 17/-/. 20 . 1 ./-/. 3 . . .)", "hand(0, 4, 1) = 0",
        "hand(1, 3, 1) = 0", "stand(0) = 4", "hunt(3) = 3", "tree() = 9"};
    private static final String KINGS = "board(17 . . . ./-/-/-/. . . . 1)";
    private static final String MATE = "board(17 . . . . ./. . 1 . . ./. 6 . . . ./-/-/-)";

    public static void main(String[] args) {
        fuelRefusals();
        huntRefusals();
        huntsThatGoNever();
        leastK();
        costs();
        fuelThatIsSpent();
        mostNodes();
        treesThatStay();
        spentCalls();
        treeAndNodeRefusals();
        forgeRefusals();
        forgedMoves();
        verifyRefusals();
        verifyFaults();
        Due.end();
    }

    private static void fuelRefusals() {
        Edge.of(24, "FUEL (1 to 1000): what it was. BAD.", "new(5)", "fuel(0) = BAD", "fuel(1001) = BAD",
            "fuel(-1) = BAD", "fuel(LEAST) = BAD", "fuel(MOST) = BAD", "fuel(1) = 500", "fuel(0) = BAD",
            "fuel(1000) = 1", "fuel(1001) = BAD", "fuel(2) = 1000");
        Edge.behind(IN_THREE, 24, "FUEL with a STAND, behind clear()", "fuel(999) = 500", "clear() = 0",
            "fuel(998) = 999");
    }

    private static void huntRefusals() {
        Edge.of(25, "K (1 to 4). BAD; STATE: no STAND", KINGS, "hunt(1) = STATE", "hunt(4) = STATE", "hunt(0) = BAD",
            "hunt(5) = BAD", "stand(0) = 2", "hunt(0) = BAD", "hunt(5) = BAD", "hunt(-1) = BAD", "hunt(LEAST) = BAD",
            "hunt(MOST) = BAD", "hunt(1) = 0", "hunt(4) = 0", "spent() = 0");
        Edge.behind(WITH_TREE, 25, "BAD, STATE: THE TREE and what was spent stay", "hunt(0) = BAD", "hunt(5) = BAD",
            "tree() = 9", "spent() = 83", "clear() = 0", "hunt(1) = STATE", "spent() = 83", "tree() = 0");
    }

    private static void huntsThatGoNever() {
        Edge.of(25, "0: none (no TREE)", KINGS, "stand(0) = 2", "hunt(4) = 0", "tree() = 0", "node(0, 0) = BAD",
            "verify() = STATE");
        Edge.of(25, "each giving CHECK: no MOVE for the other SIDE without CHECK is no MATE",
            "board(17 20 . . ./20 20 . . ./-/-/. . . . 1)", "kind(3, 0, 0, 0, 0, 0) = 1", "stand(0) = 5",
            "hunt(4) = 0", "spent() = 0", "go(0) = 1", "hunt(4) = 0", "spent() = 0");
        Edge.of(25, "the HUNTER has no MOVE", "board(17 . . . . ./. . 1 . . ./. 6 . . . ./-/-/-)", "hand(0, 3, 1) = 0",
            "stand(0) = 3", "go(3*6) = 1", "hunt(1) = 0", "hunt(4) = 0", "spent() = 0");
        Edge.of(25, "HUNT 0 goes never", "board(17 . . . ./-/-/-/. 5 . . 1)", "stand(0) = 3", "hunt(1) = 0",
            "spent() = 6", "tree() = 0");
        Edge.of(25, "one without answer is MATE, and goes at once", MATE, "hand(0, 3, 1) = 0", "stand(0) = 3",
            "hunt(1) = 1", "tree() = 1", "node(0, 6) = 0", "node(0, 0) = NONE", "node(0, 5) = 0", "verify() = 0");
        Edge.of(25, "a MOVE that MARK 2 forbids is none of the HUNTER's", MATE, "hand(0, 1, 1) = 0", "stand(0) = 3",
            "whySet(1, 6) = 6", "hunt(1) = 0", "tree() = 0", "clear() = 0", "kind(1, 1, 0, 215, 0, 1) = 1",
            "stand(0) = 3", "whySet(1, 6) = 0", "hunt(1) = 1", "node(0, 4) = 1");
    }

    private static void leastK() {
        Edge.behind(IN_THREE, 25, "k = 1, 2, .. up to K; the least that goes is told", "hunt(1) = 0", "tree() = 0",
            "hunt(2) = 0", "tree() = 0", "hunt(3) = 3", "tree() = 9", "hunt(4) = 3", "tree() = 9", "spent() = 83");
    }

    /** KIND 4 has one CHECK here, to which the KING has an answer (of which the first costs ahead of a HUNT 0). */
    private static void costs() {
        String[] one = {"board(17 . . . ./-/-/. 2 . . ./. 5 . . 1)", "kind(4, 64, 1, 0, 0, 0) = 1", "stand(0) = 4"};
        Edge.behind(one, 26, "Each MOVE made so costs one (also ahead of a HUNT 0)", "hunt(1) = 0", "spent() = 2");
        Edge.behind(one, 26, "over all k together", "hunt(2) = 0", "spent() = 4");
        Edge.behind(one, 25, "with more than FUEL it is SPENT: just as much", "fuel(4) = 500", "hunt(2) = 0",
            "spent() = 4", "fuel(2) = 4", "hunt(1) = 0", "spent() = 2");
        Edge.behind(one, 25, "with more than FUEL it is SPENT: one less", "fuel(3) = 500", "hunt(2) = SPENT",
            "spent() = 3", "tree() = 0", "fuel(1) = 3", "hunt(1) = SPENT", "spent() = 1");
    }

    private static void fuelThatIsSpent() {
        Edge.behind(IN_THREE, 25, "a HUNT that goes with just FUEL", "fuel(83) = 500", "hunt(4) = 3", "spent() = 83",
            "tree() = 9", "verify() = 0");
        Edge.behind(WITH_TREE, 25, "SPENT: no TREE", "fuel(82) = 500", "tree() = 9", "hunt(3) = SPENT", "tree() = 0",
            "node(0, 0) = BAD", "verify() = STATE", "spent() = 82", "play(2) = 0");
        Edge.behind(IN_THREE, 26, "(FUEL, if it was SPENT)", "fuel(1) = 500", "hunt(3) = SPENT", "spent() = 1",
            "fuel(1000) = 1", "spent() = 1");
        Edge.of(25, "MATE by the first MOVE that gives CHECK costs one", "board(17 . . . ./. . . . ./. 1 . . ./-/-)",
            "kind(3, 0, 255, 0, 0, 0) = 1", "hand(0, 3, 1) = 0", "fuel(1) = 500", "stand(0) = 2", "hunt(1) = SPENT",
            "spent() = 1");
    }

    /**
     * Trees have odd numbers of NODES (a MOVE of the HUNTER's, and two for each answer), so 499 are the most there can
     * be, and 501 the least that are too many.
     */
    private static void mostNodes() {
        String[] nowhere = {"kind(7, 0, 0, 0, 0, 0) = 1", "kind(6, 256, 0, 0, 0, 0) = 1", "fuel(1000) = 500"};
        Edge.behind(corridor("17 . . . . . ./24 24 18 . 5 . ./7 . . 19 . . ./-/-/-/. . . . . . 1", nowhere,
            1, 2, 1, 3, 1, 2), 25, "500 NODES at most: 499", "stand(0) = 8", "hunt(4) = 4", "tree() = 499",
            "node(498, 6) = 0", "node(499, 6) = BAD", "node(0, 6) = 498", "verify() = 0",
            "forge(499, 0, 0, false, 0) = BAD", "forge(498, 0, 0, false, 0) = 1", "verify() = 499");
        Edge.behind(corridor("17 . . . . . ./24 24 . . 5 . ./7 . . . . . ./-/-/-/. . . 18 . . 1", nowhere,
            1, 1, 2, 3, 1, 3), 25, "FULL: that which goes would have more than 500 NODES: no TREE", "stand(0) = 7",
            "hunt(3) = 0", "hunt(4) = FULL", "tree() = 0", "spent() = 625", "node(0, 0) = BAD", "verify() = STATE",
            "fuel(625) = 1000", "hunt(4) = FULL", "fuel(624) = 625", "hunt(4) = SPENT", "spent() = 624",
            "play(2) = 0");
    }

    private static String[] corridor(String rows, String[] told, int... hand) {
        String[] all = new String[1 + told.length + hand.length];
        all[0] = "board(" + rows + ")";
        System.arraycopy(told, 0, all, 1, told.length);
        for (int i = 0; i < hand.length; i++) {
            all[1 + told.length + i] = "hand(1, " + (i + 1) + ", " + hand[i] + ") = 0";
        }
        return all;
    }

    private static void treesThatStay() {
        Edge.behind(WITH_TREE, 25, "It stays till the next hunt()", "go(0) = 0", "go(0) = 0", "tree() = 9",
            "back() = 1", "back() = 0", "tree() = 9", "verify() = 0", "write() = 0", "read() = 0", "fuel(1) = 500",
            "tree() = 9", "hunt(1) = SPENT", "tree() = 0");
        Edge.behind(WITH_TREE, 25, "the next hunt() that is not BAD, STATE: one without a HUNT that goes",
            "hunt(2) = 0", "tree() = 0", "hunt(3) = 3", "tree() = 9");
        Edge.behind(WITH_TREE, 25, "or clear()", "clear() = 0", "tree() = 0", "stand(0) = 4", "tree() = 0",
            "verify() = STATE");
    }

    private static void spentCalls() {
        Edge.behind(IN_THREE, 26, "the latest hunt() that was not BAD, STATE", "spent() = 0", "hunt(3) = 3",
            "spent() = 83", "hunt(5) = BAD", "spent() = 83", "hunt(0) = BAD", "spent() = 83", "clear() = 0",
            "spent() = 83", "hunt(1) = STATE", "spent() = 83", "stand(0) = 4", "spent() = 83", "hunt(1) = 0",
            "spent() = 16");
    }

    private static void treeAndNodeRefusals() {
        Edge.of(27, "0 without", "new(5)", "tree() = 0");
        Edge.of(28, "Of a NODE. BAD.", "new(5)", "node(0, 0) = BAD", "node(-1, 0) = BAD");
        Edge.behind(WITH_TREE, 28, "Of a NODE. BAD.", "node(-1, 0) = BAD", "node(9, 0) = BAD", "node(LEAST, 0) = BAD",
            "node(MOST, 0) = BAD", "node(0, -1) = BAD", "node(0, 7) = BAD", "node(0, LEAST) = BAD",
            "node(0, MOST) = BAD", "node(8, 0) = 7", "node(8, 6) = 0", "node(0, 0) = NONE", "node(0, 6) = 8");
        Edge.behind(WITH_TREE, 28, "0 the NODE in which it is (NONE), 5 its depth (0: the first)", "node(0, 0) = NONE",
            "node(0, 5) = 0", "node(1, 0) = 0", "node(1, 5) = 1", "node(8, 5) = 4");
        Edge.behind(WITH_TREE, 28, "1 from where (NONE: SETTING), 4 the KIND that is set (NONE: a GOING)",
            "node(0, 1) = NONE", "node(0, 4) = 4", "node(2, 1) = 0", "node(2, 4) = NONE", "node(7, 1) = 4");
    }

    private static void forgeRefusals() {
        Edge.of(29, "no TREE: BAD.", KINGS, "forge(0, 0, 1, false, 1) = BAD", "stand(0) = 2",
            "forge(0, 0, 1, false, 1) = BAD");
        Edge.behind(WITH_TREE, 29, "A NODE's MOVE. BAD.", "forge(-1, 0, 1, false, 1) = BAD",
            "forge(9, 0, 1, false, 1) = BAD", "forge(LEAST, 0, 1, false, 1) = BAD", "forge(MOST, 0, 1, false, 1) = BAD",
            "forge(9, -1, 1, false, 1) = BAD");
        Edge.behind(WITH_TREE, 29, "from a FIELD to one. BAD.", "forge(0, -2, 1, false, 1) = BAD",
            "forge(0, 25, 1, false, 1) = BAD", "forge(0, 0, -1, false, 1) = BAD", "forge(0, 0, 25, true, 1) = BAD",
            "forge(0, LEAST, 1, false, 1) = BAD", "forge(0, MOST, 1, false, 1) = BAD",
            "forge(0, 0, LEAST, false, 1) = BAD", "forge(0, 0, MOST, false, 1) = BAD",
            "forge(0, 63, 1, false, 1) = BAD");
        Edge.behind(WITH_TREE, 29, "(from = NONE, not raised). BAD.", "forge(0, NONE, 1, true, 1) = BAD",
            "forge(0, NONE, 1, true, 0) = BAD", "forge(0, NONE, 1, false, 1) = 1");
        Edge.behind(WITH_TREE, 29, "a SETTING of a KIND 1 .. 7 there. BAD.", "forge(0, NONE, 1, false, 0) = BAD",
            "forge(0, NONE, 1, false, 8) = BAD", "forge(0, NONE, 1, false, -1) = BAD",
            "forge(0, NONE, 1, false, MOST) = BAD", "forge(0, NONE, 1, false, LEAST) = BAD",
            "forge(0, NONE, -1, false, 1) = BAD", "forge(0, NONE, 25, false, 1) = BAD",
            "forge(0, NONE, 24, false, 7) = 1", "node(0, 4) = 7", "forge(0, NONE, 0, false, 1) = 1", "node(0, 4) = 1",
            "node(0, 2) = 0");
    }

    private static void forgedMoves() {
        Edge.behind(WITH_TREE, 29, "(kind does not count)", "forge(4, 24, 0, true, -7) = 1", "node(4, 1) = 24",
            "node(4, 2) = 0", "node(4, 3) = 1", "node(4, 4) = NONE", "forge(4, 0, 24, false, 99) = 1",
            "node(4, 1) = 0", "node(4, 2) = 24", "node(4, 3) = 0", "node(4, 4) = NONE",
            "forge(4, 0, 24, false, LEAST) = 1", "forge(4, 0, 24, false, MOST) = 1");
        Edge.behind(WITH_TREE, 29, "a SETTING behind a GOING that RAISES", "forge(4, 24, 0, true, 3) = 1",
            "forge(4, NONE, 7, false, 3) = 1", "node(4, 1) = NONE", "node(4, 2) = 7", "node(4, 3) = 0",
            "node(4, 4) = 3", "node(4, 0) = 3", "node(4, 5) = 2", "node(4, 6) = 0");
        Edge.behind(WITH_TREE, 29, "a forged NODE goes with THE TREE", "forge(8, 1, 2, false, 0) = 1", "hunt(3) = 3",
            "node(8, 1) = NONE", "verify() = 0");
    }

    private static void verifyRefusals() {
        Edge.of(30, "STATE: no STAND, no TREE.", KINGS, "verify() = STATE", "stand(0) = 2", "verify() = STATE",
            "hunt(4) = 0", "verify() = STATE");
        Edge.behind(WITH_TREE, 30, "STATE: no STAND, no TREE.", "verify() = 0", "hunt(1) = 0", "verify() = STATE",
            "hunt(3) = 3", "verify() = 0", "clear() = 0", "verify() = STATE", "stand(0) = 4", "verify() = STATE");
    }

    private static void verifyFaults() {
        Edge.behind(WITH_TREE, 30, "1 more than the NODE that is the first not to be so: the first of all",
            "forge(0, 24, 24, false, 0) = 1", "forge(8, 24, 24, false, 0) = 1", "verify() = 1");
        Edge.behind(WITH_TREE, 30, "1 more than the NODE that is the first not to be so: the last of all",
            "forge(8, 24, 24, false, 0) = 1", "verify() = 9");
        Edge.behind(WITH_TREE, 30, "an answer at its own number: it is not the one that is due there",
            "forge(3, NONE, 3, false, 3) = 1", "verify() = 4", "forge(1, NONE, 2, false, 3) = 1", "verify() = 2");
        Edge.behind(WITH_TREE, 30, "an answer at its own number: RAISED so, or not",
            "forge(7, 4, 3, true, 0) = 1", "verify() = 8", "forge(7, 4, 3, false, 0) = 1", "verify() = 0");
        Edge.behind(WITH_TREE, 30, "one of the HUNTER's: it gives no CHECK", "why(21, 15, false) = 0",
            "forge(0, 21, 15, false, 0) = 1", "verify() = 1");
        Edge.behind(WITH_TREE, 30, "one of the HUNTER's: it is no MOVE", "why(13, 12, false) = 6",
            "forge(0, 13, 12, false, 0) = 1", "verify() = 1");
        Edge.behind(WITH_TREE, 30, "one of the HUNTER's: has not as many answers as there are",
            "forge(0, NONE, 1, false, 4) = 1", "verify() = 1");
        Edge.behind(WITH_TREE, 30, "one of the HUNTER's: has none, and there are some",
            "forge(8, NONE, 9, false, 3) = 1", "verify() = 9");
        Edge.behind(WITH_TREE, 30, "on THE STAND as it is", "go(21-15) = 0", "verify() = 1", "go(11-10) = 0",
            "verify() = 0", "back() = 1", "verify() = 1", "back() = 0", "verify() = 0");
        Edge.of(30, "one of the HUNTER's: MARK 2 forbids it", MATE, "hand(0, 1, 1) = 0", "hand(0, 3, 1) = 0",
            "stand(0) = 3", "hunt(1) = 1", "forge(0, NONE, 6, false, 3) = 1", "verify() = 0",
            "forge(0, NONE, 6, false, 1) = 1", "verify() = 1");
    }
}
