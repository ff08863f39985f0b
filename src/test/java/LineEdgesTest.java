/** Promises 1 to 8 and 36, section 5: each sentence that names a boundary case. */
public final class LineEdgesTest {
    private static final String KINGS = "board(17 . . . ./-/-/-/. . . . 1)";

    public static void main(String[] args) {
        newObject();
        kindsThatAreBad();
        kindsOfTheKing();
        kindsWithAStand();
        linesAndForms();
        sizesOfLines();
        newRowsAreEmpty();
        lostLines();
        putRefusals();
        lowestBits();
        getRefusals();
        copyRefusals();
        copiesAtTheEnds();
        copiesOverThemselves();
        hands();
        findings();
        Due.end();
    }

    private static void newObject() {
        int[][] sizes = {{Due.LEAST, 5}, {-5, 5}, {0, 5}, {4, 5}, {5, 5}, {6, 6}, {7, 7}, {8, 5}, {261, 5}, {262, 5},
            {65542, 5}, {Due.MOST, 5}};
        for (int[] s : sizes) {
            int last = s[1] - 1;
            int fields = s[1] * s[1];
            Edge.of(1, "N is n, if that is 5 to 7, else 5.", "new(" + s[0] + ")",
                "line(" + s[1] + ", 0, 7) = BAD", "line(" + last + ", 0, 7) = 7", "put(" + last + ", 0, 0, 1) = 1",
                "put(" + last + ", 0, " + last + ", 17) = 1", "stand(0) = 2", "field(" + (fields - 1) + ") = 17",
                "field(" + fields + ") = BAD", "field(" + (fields - s[1]) + ") = 1");
        }
        Edge.of(1, "No STAND yet", "new(5)", "clear() = STATE", "moves() = STATE", "play(0) = STATE",
            "field(0) = BAD", "back() = STATE", "forth() = STATE", "tree() = 0", "spent() = 0", "wipe() = 0",
            "letter(0) = NONE", "finding() = 0");
        Edge.of(1, "LINES are LOST", "new(7)", "lose(0) = NULL", "lose(1) = NULL", "lose(2) = NULL", "lose(3) = NULL",
            "lose(4) = NULL", "lose(5) = NULL", "lose(6) = NULL", "lose(7) = BAD", "get(0, 0, 0) = LEAST",
            "finding() = 1");
        for (int side = 0; side < 2; side++) {
            for (int kind = 1; kind < 8; kind++) {
                String one = side + ", " + kind;
                Edge.of(1, "HANDS are empty", "new(6)", "has(" + one + ") = 0", "hand(" + one + ", 9) = 0",
                    "has(" + one + ") = 9");
            }
        }
        Edge.of(1, "FUEL is 500.", "new(5)", "fuel(500) = 500");
    }

    private static void kindsThatAreBad() {
        Edge.of(2, "BAD: the KIND", "new(5)", "kind(-1, 1, 0, 0, 0, 0) = BAD", "kind(8, 1, 0, 0, 0, 0) = BAD",
            "kind(LEAST, 1, 0, 0, 0, 0) = BAD", "kind(MOST, 1, 0, 0, 0, 0) = BAD", "kind(256, 1, 0, 0, 0, 0) = BAD",
            "kind(0, 255, 0, 0, 0, 0) = 1", "kind(7, 768, 0, 215, 0, 0) = 1");
        Edge.of(2, "BAD: STEPS (bits 0 to 9)", "new(5)", "kind(3, -1, 0, 0, 0, 0) = BAD",
            "kind(3, 1024, 0, 0, 0, 0) = BAD", "kind(3, 1025, 0, 0, 0, 0) = BAD", "kind(3, LEAST, 0, 0, 0, 0) = BAD",
            "kind(3, MOST, 0, 0, 0, 0) = BAD", "kind(3, 0, 0, 0, 0, 0) = 1", "kind(3, 1023, 0, 0, 0, 0) = 1",
            "kind(0, 1023, 0, 0, 0, 0) = 1", "kind(0, 1024, 0, 0, 0, 0) = BAD");
        Edge.of(2, "BAD: RUNS (0 to 7)", "new(5)", "kind(3, 0, -1, 0, 0, 0) = BAD", "kind(3, 0, 256, 0, 0, 0) = BAD",
            "kind(3, 0, 768, 0, 0, 0) = BAD", "kind(3, 0, LEAST, 0, 0, 0) = BAD", "kind(3, 0, MOST, 0, 0, 0) = BAD",
            "kind(3, 0, 255, 0, 0, 0) = 1", "kind(0, 0, 255, 0, 0, 0) = 1", "kind(0, 0, 256, 0, 0, 0) = BAD");
        Edge.of(2, "the same two for a RAISED one", "new(5)", "kind(3, 0, 0, -1, 0, 0) = BAD",
            "kind(3, 0, 0, 1024, 0, 0) = BAD", "kind(3, 0, 0, MOST, 0, 0) = BAD", "kind(3, 0, 0, LEAST, 0, 0) = BAD",
            "kind(3, 0, 0, 1023, 0, 0) = 1", "kind(3, 0, 0, 0, -1, 0) = BAD", "kind(3, 0, 0, 0, 256, 0) = BAD",
            "kind(3, 0, 0, 0, 512, 0) = BAD", "kind(3, 0, 0, 0, MOST, 0) = BAD", "kind(3, 0, 0, 0, LEAST, 0) = BAD",
            "kind(3, 0, 0, 0, 255, 0) = 1");
        Edge.of(2, "MARKS (0 to 3", "new(5)", "kind(3, 1, 0, 0, 0, -1) = BAD", "kind(3, 1, 0, 0, 0, 4) = BAD",
            "kind(3, 1, 0, 0, 0, LEAST) = BAD", "kind(3, 1, 0, 0, 0, MOST) = BAD", "kind(3, 1, 0, 0, 0, 0) = 1",
            "kind(3, 1, 0, 0, 0, 1) = 1", "kind(3, 1, 0, 0, 0, 2) = 1", "kind(3, 1, 0, 0, 0, 3) = 1");
    }

    private static void kindsOfTheKing() {
        Edge.of(2, "of KIND 0: 0", "new(5)", "kind(0, 255, 0, 0, 0, 1) = BAD", "kind(0, 255, 0, 0, 0, 2) = BAD",
            "kind(0, 255, 0, 0, 0, 3) = BAD", "kind(0, 0, 0, 0, 0, 0) = 1", "kind(0, 1023, 255, 0, 0, 0) = 1");
        Edge.of(2, "also its RAISED ones are to be 0", "new(5)", "kind(0, 255, 0, 1, 0, 0) = BAD",
            "kind(0, 255, 0, 512, 0, 0) = BAD", "kind(0, 255, 0, 0, 1, 0) = BAD", "kind(0, 255, 0, 0, 128, 0) = BAD",
            "kind(1, 255, 0, 1, 0, 0) = 1", "kind(1, 255, 0, 0, 1, 0) = 1");
    }

    private static void kindsWithAStand() {
        Edge.of(2, "STATE: there is a STAND.", KINGS, "kind(3, 1, 1, 1, 1, 1) = 1", "stand(0) = 2",
            "kind(3, 2, 2, 2, 2, 2) = STATE", "kind(0, 255, 0, 0, 0, 0) = STATE", "kind(8, 2, 2, 2, 2, 2) = BAD",
            "kind(0, 2, 2, 2, 0, 0) = BAD", "kind(3, 2, 2, 2, 2, 4) = BAD", "clear() = 0",
            "kind(3, 2, 2, 2, 2, 2) = 1");
        Edge.of(2, "A KIND is told anew: all of it", "board(. . 17 . ./. . . 4 ./. . 12 . ./-/. . . . 1)",
            "kind(3, 1, 0, 0, 4, 0) = 1", "stand(0) = 4", "attacks(0, 3) = 1", "attacks(0, 7) = 0",
            "attacks(0, 13) = 1", "attacks(0, 14) = 1", "attacks(0, 11) = 0", "clear() = 0",
            "kind(3, 0, 64, 64, 0, 0) = 1", "stand(0) = 4", "attacks(0, 3) = 0", "attacks(0, 7) = 1",
            "attacks(0, 5) = 1", "attacks(0, 13) = 0", "attacks(0, 11) = 1", "attacks(0, 10) = 0");
    }

    private static void linesAndForms() {
        Edge.of(3, "BAD: LINE", "new(5)", "line(-1, 0, 5) = BAD", "line(5, 0, 5) = BAD", "line(LEAST, 0, 5) = BAD",
            "line(MOST, 0, 5) = BAD", "line(0, 0, 5) = 5", "line(4, 0, 5) = 5", "new(7)", "line(7, 0, 5) = BAD",
            "line(6, 0, 5) = 5", "new(6)", "line(6, 0, 5) = BAD", "line(5, 0, 5) = 5");
        Edge.of(3, "BAD: FORM", "new(5)", "line(0, -1, 5) = BAD", "line(0, 3, 5) = BAD", "line(0, LEAST, 5) = BAD",
            "line(0, MOST, 5) = BAD", "line(0, 0, 5) = 5", "line(1, 1, 5) = 5", "line(2, 2, 5) = 5",
            "get(0, 0, 4) = 0", "get(1, 1, 4) = 0", "get(2, 2, 4) = 0");
    }

    private static void sizesOfLines() {
        Edge.of(3, "BAD: above 12", "new(5)", "line(0, 0, 3) = 3", "put(0, 0, 2, 7) = 1", "line(0, 0, 13) = BAD",
            "line(0, 0, MOST) = BAD", "get(0, 0, 2) = 7", "finding() = 0", "line(0, 0, 12) = 12", "get(0, 0, 11) = 0",
            "get(0, 0, 12) = LEAST");
        Edge.of(3, "SIZE.", "new(5)", "line(0, 0, 3) = 3", "put(0, 0, 2, 7) = 1", "line(0, 0, -1) = SIZE",
            "finding() = 5", "line(0, 1, LEAST) = SIZE", "get(0, 0, 2) = 7", "line(1, 0, -1) = SIZE",
            "lose(1) = NULL");
        Edge.of(3, "BAD ahead of SIZE", "new(5)", "line(5, 0, -1) = BAD", "line(-1, 0, -1) = BAD",
            "line(0, 3, -1) = BAD", "line(0, -1, LEAST) = BAD", "finding() = 0");
        Edge.of(3, "of 0 to 12 items", "new(5)", "line(0, 2, 0) = 0", "get(0, 2, 0) = LEAST", "finding() = 2",
            "put(0, 2, 0, 1) = INDEX", "lose(0) = 0", "line(0, 2, 1) = 1", "put(0, 2, 0, 1) = 1", "lose(0) = 1",
            "line(0, 2, 12) = 12", "put(0, 2, 11, 1) = 1", "put(0, 2, 12, 1) = INDEX", "lose(0) = 12");
    }

    private static void newRowsAreEmpty() {
        Edge.of(3, "(0 at first)", "new(5)", "line(3, 1, 12) = 12", "put(3, 1, 0, 7) = 1", "put(3, 1, 11, 8) = 1",
            "line(3, 1, 12) = 12", "get(3, 1, 0) = 0", "get(3, 1, 11) = 0", "put(3, 1, 5, 9) = 1", "lose(3) = 12",
            "line(3, 2, 6) = 6", "get(3, 2, 5) = 0", "put(3, 2, 5, 9) = 1", "line(3, 2, 5) = 5", "line(3, 2, 6) = 6",
            "get(3, 2, 5) = 0");
        Edge.of(3, "A LINE is a new row, also with a STAND, which stays", KINGS, "stand(0) = 2", "line(0, 1, 0) = 0",
            "lose(4) = 5", "field(0) = 17", "field(24) = 1", "moves() = 3", "clear() = 0", "stand(0) = INDEX");
    }

    private static void lostLines() {
        Edge.of(4, "BAD; NULL.", "new(5)", "lose(-1) = BAD", "lose(5) = BAD", "lose(LEAST) = BAD", "lose(MOST) = BAD",
            "finding() = 0", "lose(0) = NULL", "finding() = 1", "lose(4) = NULL", "line(4, 1, 12) = 12",
            "lose(4) = 12", "lose(4) = NULL");
        Edge.of(5, "LOST tells an empty row", "board(. . . . ./. . 5 . ./. . . . ./17 . . . ./. . . . 1)",
            "stand(0) = 3", "clear() = 0", "lose(1) = 5", "stand(0) = 2", "field(7) = 0", "field(15) = 17");
        Edge.of(5, "items behind column N - 1 tell nothing", "board(17 . . . . 1/-/-/-/. . . . 1 33)", "stand(0) = 2",
            "clear() = 0", "put(0, 0, 5, -1) = 1", "stand(0) = 2", "clear() = 0", "put(0, 0, 5, 12) = 1",
            "stand(0) = 2", "field(5) = 0", "clear() = 0", "put(0, 0, 4, 33) = 1", "stand(0) = BAD");
    }

    private static void putRefusals() {
        String[] lines = {"new(5)", "line(0, 0, 3) = 3", "line(1, 1, 12) = 12", "line(2, 2, 0) = 0",
            "put(0, 0, 0, 5) = 1"};
        Edge.behind(lines, 5, "BAD", "put(-1, 0, 0, 1) = BAD", "put(5, 0, 0, 1) = BAD", "put(LEAST, 0, 0, 1) = BAD",
            "put(MOST, 0, 0, 1) = BAD", "put(0, -1, 0, 1) = BAD", "put(0, 3, 0, 1) = BAD", "put(0, LEAST, 0, 1) = BAD",
            "put(0, MOST, 0, 1) = BAD", "put(3, 3, 0, 1) = BAD", "finding() = 0");
        Edge.behind(lines, 5, "NULL: the LINE is LOST.", "put(3, 0, 0, 1) = NULL", "put(4, 2, 0, 1) = NULL");
        Edge.behind(lines, 5, "NULL ahead of CAST, INDEX", "put(3, 1, -1, 1) = NULL", "put(3, 2, 99, 1) = NULL");
        Edge.behind(lines, 5, "CAST: it has another FORM.", "put(0, 1, 0, 1) = CAST", "put(0, 2, 0, 1) = CAST",
            "put(1, 0, 0, 1) = CAST", "put(1, 2, 0, 1) = CAST", "get(0, 0, 0) = 5");
        Edge.behind(lines, 5, "CAST ahead of INDEX", "put(0, 1, 3, 1) = CAST", "put(2, 0, 0, 1) = CAST",
            "put(1, 2, -1, 1) = CAST");
        Edge.behind(lines, 5, "INDEX: there is no such item.", "put(0, 0, -1, 1) = INDEX", "put(0, 0, 3, 1) = INDEX",
            "put(0, 0, LEAST, 1) = INDEX", "put(0, 0, MOST, 1) = INDEX", "put(2, 2, 0, 1) = INDEX",
            "put(1, 1, 12, 1) = INDEX", "put(1, 1, 11, 1) = 1", "put(0, 0, 2, 1) = 1");
    }

    private static void lowestBits() {
        String[] lines = {"new(5)", "line(0, 0, 3) = 3", "line(1, 1, 3) = 3", "line(2, 2, 3) = 3"};
        int[][] bytes = {{127, 127}, {128, -128}, {-128, -128}, {-129, 127}, {255, -1}, {256, 0}, {-256, 0}, {-1, -1},
            {273, 17}, {Due.LEAST, 0}, {Due.MOST, -1}};
        int[][] chars = {{32768, 32768}, {65535, 65535}, {65536, 0}, {-1, 65535}, {-65536, 0}, {-32768, 32768},
            {65553, 17}, {Due.LEAST, 0}, {Due.MOST, 65535}};
        int[][] shorts = {{32767, 32767}, {32768, -32768}, {-32768, -32768}, {-32769, 32767}, {65535, -1}, {65536, 0},
            {-1, -1}, {65553, 17}, {Due.LEAST, 0}, {Due.MOST, -1}};
        int[][][] forms = {bytes, chars, shorts};
        for (int form = 0; form < 3; form++) {
            String at = "(" + form + ", " + form + ", ";
            for (int[] v : forms[form]) {
                Edge.behind(lines, 5, "(bytes, chars, shorts have the lowest bits of it)",
                    "put" + at + "1, " + v[0] + ") = 1", "get" + at + "1) = " + v[1], "get" + at + "0) = 0",
                    "get" + at + "2) = 0");
            }
        }
    }

    private static void getRefusals() {
        String[] lines = {"new(6)", "line(0, 0, 3) = 3", "line(1, 1, 12) = 12", "line(2, 2, 0) = 0"};
        Edge.behind(lines, 6, "BAD: the least int", "get(-1, 0, 0) = LEAST", "get(6, 0, 0) = LEAST",
            "get(LEAST, 0, 0) = LEAST", "get(MOST, 0, 0) = LEAST", "get(0, -1, 0) = LEAST", "get(0, 3, 0) = LEAST",
            "get(0, LEAST, 0) = LEAST", "get(0, MOST, 0) = LEAST", "finding() = 0");
        Edge.behind(lines, 6, "so is NULL (finding() tells)", "get(3, 0, 0) = LEAST", "finding() = 1");
        Edge.behind(lines, 6, "NULL ahead of CAST, INDEX", "get(5, 2, -1) = LEAST", "finding() = 1");
        Edge.behind(lines, 6, "so is CAST (finding() tells)", "get(0, 1, 0) = LEAST", "finding() = 3");
        Edge.behind(lines, 6, "CAST ahead of INDEX", "get(2, 1, 0) = LEAST", "finding() = 3");
        Edge.behind(lines, 6, "so is INDEX (finding() tells)", "get(0, 0, 3) = LEAST", "finding() = 2",
            "get(3, 0, 0) = LEAST", "get(0, 0, -1) = LEAST", "finding() = 2", "get(3, 0, 0) = LEAST",
            "get(2, 2, 0) = LEAST", "finding() = 2", "get(3, 0, 0) = LEAST", "get(1, 1, 12) = LEAST", "finding() = 2",
            "get(3, 0, 0) = LEAST", "get(1, 1, LEAST) = LEAST", "finding() = 2", "get(1, 1, MOST) = LEAST",
            "get(0, 0, 0) = 0", "get(0, 0, 2) = 0", "get(1, 1, 11) = 0");
    }

    private static final String[] TO_COPY = {"new(5)", "line(0, 1, 4) = 4", "line(1, 1, 12) = 12", "line(2, 2, 6) = 6",
        "line(4, 0, 0) = 0", "put(0, 1, 0, 10) = 1", "put(0, 1, 3, 65535) = 1", "put(2, 2, 0, 20) = 1"};

    private static void copyRefusals() {
        Edge.behind(TO_COPY, 7, "BAD: the LINES", "copy(-1, 0, 0, 0, 1) = BAD", "copy(5, 0, 0, 0, 1) = BAD",
            "copy(0, 0, -1, 0, 1) = BAD", "copy(0, 0, 5, 0, 1) = BAD", "copy(LEAST, 0, 0, 0, 0) = BAD",
            "copy(0, 0, MOST, 0, 0) = BAD", "copy(3, 0, 5, 0, 0) = BAD", "copy(5, -1, 3, -1, -1) = BAD",
            "finding() = 0");
        Edge.behind(TO_COPY, 7, "NULL: r, q", "copy(3, 0, 0, 0, 0) = NULL", "copy(0, 0, 3, 0, 0) = NULL",
            "copy(3, 0, 3, 0, 0) = NULL");
        Edge.behind(TO_COPY, 7, "NULL ahead of STORE, INDEX", "copy(3, -1, 2, -1, -1) = NULL",
            "copy(2, 0, 3, 99, 99) = NULL");
        Edge.behind(TO_COPY, 7, "STORE: two LINES have unlike FORMS.", "copy(0, 0, 2, 0, 1) = STORE",
            "copy(2, 0, 0, 0, 0) = STORE", "copy(4, 0, 0, 0, 0) = STORE");
        Edge.behind(TO_COPY, 7, "STORE ahead of INDEX", "copy(0, -1, 2, 0, 1) = STORE", "copy(0, 0, 2, 0, 99) = STORE",
            "copy(0, 0, 2, 0, -1) = STORE");
        Edge.behind(TO_COPY, 7, "INDEX: below 0", "copy(0, -1, 1, 0, 1) = INDEX", "copy(0, 0, 1, -1, 1) = INDEX",
            "copy(0, 0, 1, 0, -1) = INDEX", "copy(0, -1, 1, 0, 0) = INDEX", "copy(0, 0, 1, -1, 0) = INDEX",
            "copy(0, LEAST, 1, 0, 1) = INDEX", "copy(0, 0, 1, LEAST, 1) = INDEX", "copy(0, 0, 1, 0, LEAST) = INDEX",
            "copy(0, 4, 1, 4, -1) = INDEX", "get(1, 1, 0) = 0");
        Edge.behind(TO_COPY, 7, "INDEX: not so many", "copy(0, 0, 1, 0, 5) = INDEX", "copy(0, 1, 1, 0, 4) = INDEX",
            "copy(0, 4, 1, 0, 1) = INDEX", "copy(0, 5, 1, 0, 0) = INDEX", "copy(1, 0, 0, 0, 5) = INDEX",
            "copy(1, 0, 0, 1, 4) = INDEX", "copy(1, 0, 0, 4, 1) = INDEX", "copy(1, 0, 0, 5, 0) = INDEX",
            "copy(4, 0, 4, 0, 1) = INDEX", "copy(1, 1, 1, 0, 12) = INDEX", "copy(1, 0, 1, 1, 12) = INDEX");
        Edge.behind(TO_COPY, 7, "not so many, with sums that would wrap around", "copy(0, 1, 1, 0, MOST) = INDEX",
            "copy(0, MOST, 1, 0, 1) = INDEX", "copy(0, 0, 1, MOST, 1) = INDEX", "copy(0, MOST, 1, MOST, MOST) = INDEX",
            "copy(0, 1, 1, MOST, MOST) = INDEX");
    }

    private static void copiesAtTheEnds() {
        Edge.behind(TO_COPY, 7, "n items: none at all, also behind the last one", "copy(0, 4, 1, 12, 0) = 1",
            "copy(4, 0, 4, 0, 0) = 1", "copy(0, 0, 0, 0, 0) = 1", "get(1, 1, 0) = 0", "get(1, 1, 11) = 0");
        Edge.behind(TO_COPY, 7, "n items: all, up to the last one", "copy(0, 0, 1, 8, 4) = 1", "get(1, 1, 7) = 0",
            "get(1, 1, 8) = 10", "get(1, 1, 11) = 65535", "copy(1, 0, 1, 0, 12) = 1", "get(1, 1, 8) = 10",
            "copy(1, 11, 0, 0, 1) = 1", "get(0, 1, 0) = 65535", "get(0, 1, 1) = 0");
    }

    private static void copiesOverThemselves() {
        String[] six = {"new(5)", "line(0, 2, 6) = 6", "put(0, 2, 0, 1) = 1", "put(0, 2, 1, -2) = 1",
            "put(0, 2, 2, 3) = 1", "put(0, 2, 3, 4) = 1", "put(0, 2, 4, 5) = 1", "put(0, 2, 5, 6) = 1"};
        Edge.behind(six, 7, "(perhaps r, as they were): to the right", "copy(0, 0, 0, 1, 5) = 1", "get(0, 2, 0) = 1",
            "get(0, 2, 1) = 1", "get(0, 2, 2) = -2", "get(0, 2, 3) = 3", "get(0, 2, 4) = 4", "get(0, 2, 5) = 5");
        Edge.behind(six, 7, "(perhaps r, as they were): to the left", "copy(0, 1, 0, 0, 5) = 1", "get(0, 2, 0) = -2",
            "get(0, 2, 1) = 3", "get(0, 2, 2) = 4", "get(0, 2, 3) = 5", "get(0, 2, 4) = 6", "get(0, 2, 5) = 6");
    }

    private static void hands() {
        Edge.of(8, "0 to 9: what it was", "new(5)", "hand(0, 1, 9) = 0", "hand(0, 1, 10) = BAD",
            "hand(0, 1, -1) = BAD", "hand(0, 1, LEAST) = BAD", "hand(0, 1, MOST) = BAD", "hand(0, 1, 0) = 9",
            "hand(0, 1, 1) = 0", "has(0, 1) = 1");
        Edge.of(8, "a KIND (1 .. 7)", "new(5)", "hand(0, 0, 1) = BAD", "hand(0, 8, 1) = BAD", "hand(0, -1, 1) = BAD",
            "hand(1, LEAST, 1) = BAD", "hand(1, MOST, 1) = BAD", "hand(0, 7, 2) = 0", "hand(1, 1, 3) = 0",
            "has(0, 7) = 2", "has(1, 1) = 3", "has(1, 7) = 0", "has(0, 1) = 0");
        Edge.of(8, "BAD: the SIDE", "new(5)", "hand(-1, 1, 1) = BAD", "hand(2, 1, 1) = BAD", "hand(LEAST, 1, 1) = BAD",
            "hand(MOST, 1, 1) = BAD", "hand(0, 1, 1) = 0", "hand(1, 1, 1) = 0");
        Edge.of(8, "STATE: there is a STAND.", KINGS, "hand(1, 4, 2) = 0", "stand(0) = 2", "hand(1, 4, 3) = STATE",
            "hand(1, 4, 10) = BAD", "hand(2, 4, 3) = BAD", "hand(1, 8, 3) = BAD", "has(1, 4) = 2", "clear() = 0",
            "hand(1, 4, 3) = 2");
    }

    private static void findings() {
        Edge.of(36, "(0 before any)", "new(5)", "finding() = 0", "lose(9) = BAD", "stand(0) = BAD", "back() = STATE",
            "get(9, 0, 0) = LEAST", "finding() = 0");
        Edge.of(36, "The number of the latest FINDING", "new(5)", "lose(0) = NULL", "finding() = 1",
            "line(0, 0, 4) = 4", "finding() = 1", "put(0, 0, 4, 1) = INDEX", "finding() = 2",
            "put(0, 1, 0, 1) = CAST", "finding() = 3", "line(1, 1, 4) = 4", "copy(0, 0, 1, 0, 1) = STORE",
            "finding() = 4", "line(0, 0, -1) = SIZE", "finding() = 5", "line(9, 0, -1) = BAD", "finding() = 5",
            "stand(0) = INDEX", "finding() = 2", "get(4, 0, 0) = LEAST", "finding() = 1", "finding() = 1");
        Edge.of(36, "it stays behind stand(), clear()", KINGS, "lose(1) = NULL", "stand(0) = 2", "finding() = 1",
            "clear() = 0", "finding() = 1");
    }
}
