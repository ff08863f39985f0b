/** Promises 1 to 8 and 36: a new object, kinds, lines, hands before a stand, findings. */
public final class KindsAndLinesTest {
    public static void main(String[] args) {
        newObject();
        sizes();
        kindRefusals();
        kindsAreToldAnew();
        lineCalls();
        loseCalls();
        putAndGet();
        copyCalls();
        copyOverItself();
        handCalls();
        findings();
        Due.end();
    }

    private static void newObject() {
        DropChase x = new DropChase(5);
        Due.due(1, "moves()", x.moves(), Due.STATE);
        Due.due(1, "field(0)", x.field(0), Due.BAD);
        Due.due(1, "clear()", x.clear(), Due.STATE);
        Due.due(1, "tree()", x.tree(), 0);
        Due.due(1, "spent()", x.spent(), 0);
        Due.due(1, "finding()", x.finding(), 0);
        Due.due(1, "letter(0)", x.letter(0), Due.NONE);
        Due.due(1, "wipe()", x.wipe(), 0);
        Due.due(1, "fuel(500)", x.fuel(500), 500);
        for (int side = 0; side < 2; side++) {
            for (int kind = 1; kind < 8; kind++) Due.due(1, "has()", x.has(side, kind), 0);
        }
        for (int r = 0; r < 5; r++) Due.due(1, "lose(r)", x.lose(r), Due.NULL);
    }

    private static void sizes() {
        int[] told = {5, 6, 7, 4, 8, 0, -1, 6 + 256, Due.LEAST, Due.MOST};
        int[] due = {5, 6, 7, 5, 5, 5, 5, 5, 5, 5};
        for (int i = 0; i < told.length; i++) {
            DropChase x = new DropChase(told[i]);
            Due.due(1, "line(N - 1) of " + told[i], x.line(due[i] - 1, 0, 7), 7);
            Due.due(1, "line(N) of " + told[i], x.line(due[i], 0, 7), Due.BAD);
        }
    }

    private static void kindRefusals() {
        DropChase x = new DropChase(5);
        Due.due(2, "kind 0, most", x.kind(0, 1023, 255, 0, 0, 0), 1);
        Due.due(2, "kind 7, most", x.kind(7, 1023, 255, 1023, 255, 3), 1);
        Due.due(2, "kind 7, least", x.kind(7, 0, 0, 0, 0, 0), 1);
        int[][] bad = {
            {-1, 1, 1, 1, 1, 1}, {8, 1, 1, 1, 1, 1}, {1, -1, 1, 1, 1, 1}, {1, 1024, 1, 1, 1, 1},
            {1, 1, -1, 1, 1, 1}, {1, 1, 256, 1, 1, 1}, {1, 1, 1, -1, 1, 1}, {1, 1, 1, 1024, 1, 1},
            {1, 1, 1, 1, -1, 1}, {1, 1, 1, 1, 256, 1}, {1, 1, 1, 1, 1, -1}, {1, 1, 1, 1, 1, 4},
            {0, 1, 1, 1, 0, 0}, {0, 1, 1, 0, 1, 0}, {0, 1, 1, 0, 0, 1}, {0, 1, 1, 0, 0, 2},
            {Due.MOST, 1, 1, 1, 1, 1}, {Due.LEAST, 1, 1, 1, 1, 1}, {1, Due.LEAST, 1, 1, 1, 1}};
        for (int[] a : bad) Due.due(2, "bad kind", x.kind(a[0], a[1], a[2], a[3], a[4], a[5]), Due.BAD);
        Due.tell(x, "17 . . . ./-/-/-/. . . . 1");
        Due.due(2, "KING of RUNS, in CHECK", x.stand(0), Due.BAD);
        Due.due(2, "KING anew", x.kind(0, 255, 0, 0, 0, 0), 1);
        Due.due(9, "stand(0)", x.stand(0), 2);
        Due.due(2, "kind with a STAND", x.kind(1, 1, 1, 1, 1, 1), Due.STATE);
        Due.due(2, "BAD ahead of STATE", x.kind(8, 1, 1, 1, 1, 1), Due.BAD);
        Due.due(10, "clear()", x.clear(), 0);
        Due.due(2, "kind behind clear()", x.kind(1, 1, 1, 1, 1, 1), 1);
    }

    private static void kindsAreToldAnew() {
        DropChase x = Due.board("17 . . . ./-/. . 3 . ./-/. . . . 1");
        Due.due(2, "stand(0)", x.stand(0), 3);
        Due.due(2, "as at first", x.attacks(0, 7), 1);
        Due.due(2, "as at first", x.attacks(0, 13), 0);
        x.clear();
        Due.due(2, "kind 2 anew", x.kind(2, 4, 16, 0, 0, 0), 1);
        Due.due(2, "stand(0)", x.stand(0), 3);
        Due.due(2, "its STEP", x.attacks(0, 13), 1);
        Due.due(2, "its STEP only once", x.attacks(0, 14), 0);
        Due.due(2, "its RUN", x.attacks(0, 22), 1);
        Due.due(2, "what it was", x.attacks(0, 7), 0);
        x.clear();
        x.put(2, 0, 2, 11);
        Due.due(2, "no RAISED one any more", x.stand(0), Due.BAD);
        Due.due(2, "RUNS RAISED", x.kind(2, 0, 0, 0, 4, 0), 1);
        Due.due(2, "RAISED by RUNS alone", x.stand(0), 3);
        Due.due(2, "its RUN", x.attacks(0, 14), 1);
    }

    private static void lineCalls() {
        DropChase x = new DropChase(6);
        Due.due(3, "line(0, 0, 0)", x.line(0, 0, 0), 0);
        Due.due(3, "line(5, 2, 12)", x.line(5, 2, 12), 12);
        Due.due(3, "13 items", x.line(0, 0, 13), Due.BAD);
        Due.due(3, "most items", x.line(0, 0, Due.MOST), Due.BAD);
        Due.due(3, "LINE -1", x.line(-1, 0, 3), Due.BAD);
        Due.due(3, "LINE 6", x.line(6, 0, 3), Due.BAD);
        Due.due(3, "FORM -1", x.line(0, -1, 3), Due.BAD);
        Due.due(3, "FORM 3", x.line(0, 3, 3), Due.BAD);
        Due.due(3, "no FINDING yet", x.finding(), 0);
        Due.due(3, "below 0", x.line(1, 1, -1), Due.SIZE);
        Due.due(3, "below 0", x.line(1, 1, Due.LEAST), Due.SIZE);
        Due.due(3, "finding()", x.finding(), 5);
        Due.due(3, "BAD ahead of SIZE", x.line(1, 3, -1), Due.BAD);
        Due.due(3, "SIZE changes nothing", x.lose(1), Due.NULL);
        Due.due(3, "SIZE changes nothing", x.line(5, 0, -1), Due.SIZE);
        Due.due(3, "it stays", x.put(5, 2, 11, 9), 1);
        Due.due(3, "a new row", x.line(5, 2, 12), 12);
        Due.due(3, "its items are 0", x.get(5, 2, 11), 0);
        Due.due(3, "another FORM", x.line(5, 1, 4), 4);
        Due.due(3, "another FORM", x.get(5, 1, 3), 0);
    }

    private static void loseCalls() {
        DropChase x = new DropChase(7);
        x.line(6, 1, 9);
        Due.due(4, "lose(6)", x.lose(6), 9);
        Due.due(4, "lose(6) again", x.lose(6), Due.NULL);
        Due.due(4, "finding()", x.finding(), 1);
        Due.due(4, "lose(-1)", x.lose(-1), Due.BAD);
        Due.due(4, "lose(7)", x.lose(7), Due.BAD);
        x.line(0, 0, 0);
        Due.due(4, "lose(0) of 0 items", x.lose(0), 0);
        Due.due(4, "it is LOST", x.put(0, 0, 0, 1), Due.NULL);
    }

    private static void putAndGet() {
        DropChase x = new DropChase(5);
        x.line(0, 0, 3);
        x.line(1, 1, 3);
        x.line(2, 2, 3);
        int[] told = {0, 1, 127, 128, -1, 255, 256, 32768, 65535, 65536 + 5, Due.LEAST, Due.MOST};
        for (int v : told) {
            Due.due(5, "put " + v, x.put(0, 0, 2, v), 1);
            Due.due(5, "put " + v, x.put(1, 1, 2, v), 1);
            Due.due(5, "put " + v, x.put(2, 2, 2, v), 1);
            Due.due(6, "byte of " + v, x.get(0, 0, 2), (byte) v);
            Due.due(6, "char of " + v, x.get(1, 1, 2), (char) v);
            Due.due(6, "short of " + v, x.get(2, 2, 2), (short) v);
        }
        Due.due(6, "the one beside", x.get(0, 0, 1), 0);
        int[][] bad = {{-1, 0, 0}, {5, 0, 0}, {0, -1, 0}, {0, 3, 0}, {3, 3, 9}};
        for (int[] a : bad) {
            Due.due(5, "bad put", x.put(a[0], a[1], a[2], 1), Due.BAD);
            Due.due(6, "bad get", x.get(a[0], a[1], a[2]), Due.LEAST);
        }
        Due.due(36, "BAD is no FINDING", x.finding(), 0);
        int[][] ill = {{3, 0, 0, 1}, {3, 0, 99, 1}, {0, 1, 0, 3}, {0, 2, 99, 3}, {0, 0, 3, 2}, {1, 1, -1, 2},
            {2, 2, Due.MOST, 2}, {2, 2, Due.LEAST, 2}};
        for (int[] a : ill) {
            x.line(4, 0, -1);
            Due.due(5, "ill put", x.put(a[0], a[1], a[2], 1), -10 - a[3]);
            Due.due(36, "its FINDING", x.finding(), a[3]);
            x.line(4, 0, -1);
            Due.due(6, "ill get", x.get(a[0], a[1], a[2]), Due.LEAST);
            Due.due(36, "its FINDING", x.finding(), a[3]);
        }
    }

    private static void copyCalls() {
        DropChase x = new DropChase(5);
        x.line(0, 1, 4);
        x.line(1, 1, 6);
        x.line(2, 2, 6);
        for (int i = 0; i < 4; i++) x.put(0, 1, i, 10 + i);
        Due.due(7, "copy(0, 1, 1, 3, 3)", x.copy(0, 1, 1, 3, 3), 1);
        int[] due = {0, 0, 0, 11, 12, 13};
        for (int i = 0; i < 6; i++) Due.due(7, "item " + i, x.get(1, 1, i), due[i]);
        Due.due(7, "nothing at the end", x.copy(0, 4, 1, 6, 0), 1);
        Due.due(7, "all", x.copy(0, 0, 1, 0, 4), 1);
        int[][] bad = {{-1, 0, 0, 0, 1}, {5, 0, 0, 0, 1}, {0, 0, -1, 0, 1}, {0, 0, 5, 0, 1}};
        for (int[] a : bad) Due.due(7, "bad copy", x.copy(a[0], a[1], a[2], a[3], a[4]), Due.BAD);
        Due.due(7, "from a LOST one", x.copy(3, 0, 0, 0, 9), Due.NULL);
        Due.due(7, "to a LOST one", x.copy(0, 0, 3, 0, 9), Due.NULL);
        Due.due(7, "finding()", x.finding(), 1);
        Due.due(7, "unlike FORMS, ahead of INDEX", x.copy(0, 0, 2, 0, 9), Due.STORE);
        Due.due(7, "finding()", x.finding(), 4);
        int[][] ill = {{0, -1, 1, 0, 1}, {0, 0, 1, -1, 1}, {0, 0, 1, 0, -1}, {0, 0, 1, 0, 5}, {0, 2, 1, 0, 3},
            {1, 0, 0, 1, 4}, {0, 5, 1, 0, 0}, {0, 0, 1, 7, 0}, {0, Due.MOST, 1, 0, 1}, {0, 1, 1, 0, Due.MOST},
            {0, 0, 1, Due.MOST, Due.MOST}, {0, 0, 1, 0, Due.LEAST}, {0, Due.LEAST, 1, 0, 1}};
        for (int[] a : ill) Due.due(7, "ill copy", x.copy(a[0], a[1], a[2], a[3], a[4]), Due.INDEX);
        Due.due(7, "finding()", x.finding(), 2);
        Due.due(7, "nothing has changed", x.get(1, 1, 0), 10);
        Due.due(7, "nothing has changed", x.get(1, 1, 4), 12);
    }

    private static void copyOverItself() {
        DropChase x = new DropChase(5);
        x.line(0, 0, 6);
        for (int i = 0; i < 6; i++) x.put(0, 0, i, i + 1);
        Due.due(7, "forwards", x.copy(0, 0, 0, 2, 4), 1);
        int[] due = {1, 2, 1, 2, 3, 4};
        for (int i = 0; i < 6; i++) Due.due(7, "item " + i, x.get(0, 0, i), due[i]);
        Due.due(7, "backwards", x.copy(0, 2, 0, 1, 4), 1);
        int[] then = {1, 1, 2, 3, 4, 4};
        for (int i = 0; i < 6; i++) Due.due(7, "item " + i, x.get(0, 0, i), then[i]);
    }

    private static void handCalls() {
        DropChase x = Due.board("17 . . . ./-/-/-/. . . . 1");
        Due.due(8, "hand(0, 1, 9)", x.hand(0, 1, 9), 0);
        Due.due(8, "hand(0, 1, 2)", x.hand(0, 1, 2), 9);
        Due.due(8, "hand(1, 7, 3)", x.hand(1, 7, 3), 0);
        Due.due(12, "has(0, 1)", x.has(0, 1), 2);
        Due.due(12, "has(1, 7)", x.has(1, 7), 3);
        Due.due(12, "has(1, 1)", x.has(1, 1), 0);
        int[][] bad = {{-1, 1, 1}, {2, 1, 1}, {0, 0, 1}, {0, 8, 1}, {0, 1, -1}, {0, 1, 10}, {0, -1, 1}};
        for (int[] a : bad) Due.due(8, "bad hand", x.hand(a[0], a[1], a[2]), Due.BAD);
        Due.due(8, "nothing has changed", x.has(0, 1), 2);
        Due.due(9, "stand(0)", x.stand(0), 2);
        Due.due(8, "with a STAND", x.hand(0, 1, 3), Due.STATE);
        Due.due(8, "BAD ahead of STATE", x.hand(0, 1, 10), Due.BAD);
        Due.due(8, "nothing has changed", x.has(0, 1), 2);
        x.clear();
        Due.due(8, "hand(0, 1, 0)", x.hand(0, 1, 0), 2);
    }

    private static void findings() {
        DropChase x = new DropChase(5);
        x.lose(0);
        Due.due(36, "NULL", x.finding(), 1);
        x.line(0, 0, -3);
        Due.due(36, "SIZE", x.finding(), 5);
        Due.due(36, "asked again", x.finding(), 5);
        x.line(0, 0, 3);
        x.lose(9);
        Due.due(36, "neither BAD nor 3 is one", x.finding(), 5);
        x.stand(0);
        Due.due(36, "INDEX of stand()", x.finding(), 2);
        x.get(0, 1, 0);
        Due.due(36, "CAST of get()", x.finding(), 3);
    }
}
