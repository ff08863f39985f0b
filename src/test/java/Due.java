/** What the tests share: answers that are due, boards told in one go, texts typed in one go. */
final class Due {
    static final int NONE = -1, BAD = -2, STATE = -3, FULL = -4, SPENT = -5;
    static final int NULL = -11, INDEX = -12, CAST = -13, STORE = -14, SIZE = -15;
    static final int LEAST = Integer.MIN_VALUE, MOST = Integer.MAX_VALUE;
    private static int wrong = 0;
    private static int asked = 0;

    private Due() { }

    static void due(int promise, String call, long got, long want) {
        asked++;
        if (got == want) return;
        wrong++;
        System.out.println("promise " + promise + ": " + call + " answered " + got + ", due is " + want);
    }

    static void end() {
        System.out.println(asked + " answers, " + wrong + " not as due");
        if (wrong != 0) System.exit(1);
    }

    /** A new object with a board: its rows parted by '/', its items by blanks, '.' an empty FIELD, '-' a LOST row. */
    static DropChase board(String rows) {
        String[] row = rows.split("/");
        DropChase x = new DropChase(row.length);
        tell(x, rows);
        return x;
    }

    static void tell(DropChase x, String rows) {
        String[] row = rows.split("/");
        for (int r = 0; r < row.length; r++) {
            String[] item = row[r].trim().split(" +");
            if (item[0].equals("-")) {
                if (x.get(r, 0, 0) != LEAST) x.lose(r);
                continue;
            }
            x.line(r, 0, item.length);
            for (int c = 0; c < item.length; c++) {
                if (!item[c].equals(".")) x.put(r, 0, c, Integer.parseInt(item[c]));
            }
        }
    }

    static void type(DropChase x, String s) {
        for (int i = 0; i < s.length(); i++) x.type(s.charAt(i));
    }

    static String text(DropChase x) {
        StringBuilder s = new StringBuilder();
        for (int k = 0; x.letter(k) >= 0; k++) s.append((char) x.letter(k));
        return s.toString();
    }

    /** The number of a GOING, or NONE. */
    static int numberOf(DropChase x, int from, int to, boolean raise) {
        for (int i = 0; i < x.moves(); i++) {
            if (x.move(i, 0) == from && x.move(i, 1) == to && x.move(i, 2) == (raise ? 1 : 0)) return i;
        }
        return NONE;
    }

    /** The number of a SETTING, or NONE. */
    static int numberOfSetting(DropChase x, int kind, int to) {
        for (int i = 0; i < x.moves(); i++) {
            if (x.move(i, 0) == NONE && x.move(i, 3) == kind && x.move(i, 1) == to) return i;
        }
        return NONE;
    }
}
