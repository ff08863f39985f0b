/** A desk for a board game in which taken men come back on the taker's side. */
public final class DropChase {
    public static final int NONE = -1, BAD = -2, STATE = -3, FULL = -4, SPENT = -5;

    private static final int LEAST_INT = 0x80000000;
    private static final int NO_LINE = 1, NO_ITEM = 2, OTHER_FORM = 3, UNLIKE_FORMS = 4, BELOW_ZERO = 5;
    private static final int MOST_OF_A_KIND = 9, MOST_ROWS = 20000, MOST_FUEL = 1000, MOST_K = 4;
    private static final int READ_FAULT = -100;

    private final int fields;
    private final Ways ways;
    private final Lines lines;
    private final int[] toldHands = new int[16];
    private final Table table;
    private final Rules rules;
    private final Chase chase;
    private final Text text;
    private Play current;
    private Play spare;
    private boolean standing;
    private int lawful;
    private int latestFinding;

    public DropChase(int n) {
        int size = n < 5 || n > 7 ? 5 : n;
        fields = size * size;
        ways = new Ways(size);
        lines = new Lines(size);
        table = new Table(ways);
        rules = new Rules(ways, table);
        chase = new Chase(rules, table);
        text = new Text(size);
        current = new Play(table);
        spare = new Play(table);
    }

    // ---- kinds, lines

    public int kind(int kind, int steps, int runs, int raisedSteps, int raisedRuns, int marks) {
        if (kind < 0 || kind > 7 || !Ways.areSteps(steps) || !Ways.areRuns(runs)) return BAD;
        if (!Ways.areSteps(raisedSteps) || !Ways.areRuns(raisedRuns) || marks < 0 || marks > 3) return BAD;
        if (kind == 0 && (raisedSteps | raisedRuns | marks) != 0) return BAD;
        if (standing) return STATE;
        ways.tell(kind, steps, runs);
        ways.tell(kind + 8, raisedSteps, raisedRuns);
        ways.marks[kind] = marks;
        return 1;
    }

    public int line(int r, int form, int n) {
        if (!lines.isLine(r) || !Lines.isForm(form) || n > Lines.MOST_ITEMS) return BAD;
        if (n < 0) return found(BELOW_ZERO);
        lines.renew(r, form, n);
        return n;
    }

    public int lose(int r) {
        if (!lines.isLine(r)) return BAD;
        if (lines.isLost(r)) return found(NO_LINE);
        int had = lines.sizes[r];
        lines.sizes[r] = NONE;
        return had;
    }

    public int put(int r, int form, int i, int v) {
        if (!lines.isLine(r) || !Lines.isForm(form)) return BAD;
        int finding = lines.faultOfItem(r, form, i);
        if (finding != 0) return found(finding);
        lines.items[r][i] = Lines.narrowed(form, v);
        return 1;
    }

    public int get(int r, int form, int i) {
        if (!lines.isLine(r) || !Lines.isForm(form)) return LEAST_INT;
        int finding = lines.faultOfItem(r, form, i);
        if (finding != 0) {
            latestFinding = finding;
            return LEAST_INT;
        }
        return lines.items[r][i];
    }

    public int copy(int r, int i, int q, int j, int n) {
        if (!lines.isLine(r) || !lines.isLine(q)) return BAD;
        if (lines.isLost(r) || lines.isLost(q)) return found(NO_LINE);
        if (lines.forms[r] != lines.forms[q]) return found(UNLIKE_FORMS);
        if (!lines.hasItems(r, i, n) || !lines.hasItems(q, j, n)) return found(NO_ITEM);
        System.arraycopy(lines.items[r], i, lines.items[q], j, n);
        return 1;
    }

    public int hand(int side, int kind, int many) {
        if (!isSide(side) || !isHandKind(kind) || many < 0 || many > MOST_OF_A_KIND) return BAD;
        if (standing) return STATE;
        int was = toldHands[8 * side + kind];
        toldHands[8 * side + kind] = many;
        return was;
    }

    public int stand(int side) {
        if (!isSide(side)) return BAD;
        if (standing) return STATE;
        if (lines.someIsTooShort()) return found(NO_ITEM);
        // Without a STAND nothing can be seen of the table, so a refused one may leave its men there.
        int men = table.load(lines);
        if (men < 0 || !table.findKings()) return BAD;
        System.arraycopy(toldHands, 0, table.hands, 0, toldHands.length);
        table.mover = side;
        if (table.inCheck(1 - side)) return BAD;
        standing = true;
        current.begin();
        lookAround();
        return men;
    }

    public int clear() {
        if (!standing) return STATE;
        standing = false;
        chase.size = 0;
        return current.done;
    }

    // ---- asks of the stand

    public int field(int f) {
        return isField(f) && standing ? table.cells[f] : BAD;
    }

    public int has(int side, int kind) {
        if (!isSide(side) || !isHandKind(kind)) return BAD;
        return inHand(side, kind);
    }

    public int attacks(int side, int f) {
        if (!isSide(side) || !isField(f)) return BAD;
        if (!standing) return STATE;
        return asNumber(table.attacked(side, f));
    }

    public int check(int side) {
        if (!isSide(side)) return BAD;
        if (!standing) return STATE;
        return asNumber(table.inCheck(side));
    }

    public int moves() {
        return standing ? lawful : STATE;
    }

    public int move(int i, int what) {
        if (!standing) return STATE;
        if (i < 0 || i >= lawful) return BAD;
        int code = rules.listed(Rules.OF_THE_STAND, i);
        switch (what) {
            case 0: return Move.fromOf(code);
            case 1: return Move.toOf(code);
            case 2: return asNumber(Move.raises(code));
            case 3: return table.moverKind(code);
            case 4: return Move.takenKindOf(code);
            default: return BAD;
        }
    }

    public int why(int from, int to, boolean raise) {
        if (!isField(from) || !isField(to)) return BAD;
        if (!standing) return STATE;
        return rules.faultOf(Move.going(from, to, raise));
    }

    public int whySet(int kind, int f) {
        if (!isHandKind(kind) || !isField(f)) return BAD;
        if (!standing) return STATE;
        return rules.faultOf(Move.setting(kind, f));
    }

    public int rows(int many) {
        if (many < 1 || many > 3) return BAD;
        if (!standing) return STATE;
        int count = rules.countRows(many, Rules.FIRST_FREE, MOST_ROWS);
        return count > MOST_ROWS ? SPENT : count;
    }

    // ---- the play

    public int go(int i) {
        if (!standing) return STATE;
        if (i < 0 || i >= lawful) return BAD;
        if (stateOfPlay() != 0) return STATE;
        if (current.done >= Play.MOST_MOVES) return FULL;
        current.advance(rules.listed(Rules.OF_THE_STAND, i));
        lookAround();
        return stateOfPlay();
    }

    public int back() {
        if (!standing || current.done == 0) return STATE;
        current.withdraw();
        lookAround();
        return current.done;
    }

    public int forth() {
        if (!standing || current.done >= current.known) return STATE;
        current.repeat();
        lookAround();
        return current.done;
    }

    public int play(int what) {
        if (what < 0 || what > 5) return BAD;
        if (!standing) return STATE;
        return ofPlay(what);
    }

    // ---- chases

    public int fuel(int most) {
        if (most < 1 || most > MOST_FUEL) return BAD;
        int was = chase.fuel;
        chase.fuel = most;
        return was;
    }

    public int hunt(int k) {
        if (k < 1 || k > MOST_K) return BAD;
        if (!standing) return STATE;
        chase.begin();
        for (int asked = 1; asked <= k && !chase.dry; asked++) {
            if (chase.hunterGoes(asked, NONE, Rules.FIRST_FREE)) return chase.fits() ? asked : FULL;
        }
        return chase.dry ? SPENT : 0;
    }

    public int spent() {
        return chase.used;
    }

    public int tree() {
        return chase.size;
    }

    public int node(int i, int what) {
        if (i < 0 || i >= chase.size) return BAD;
        int code = chase.codes[i];
        switch (what) {
            case 0: return chase.parents[i];
            case 1: return Move.fromOf(code);
            case 2: return Move.toOf(code);
            case 3: return asNumber(Move.raises(code));
            case 4: return Move.setKindOf(code);
            case 5: return chase.depthOf(i);
            case 6: return chase.inside[i];
            default: return BAD;
        }
    }

    public int forge(int i, int from, int to, boolean raise, int kind) {
        if (i < 0 || i >= chase.size || !isField(to)) return BAD;
        if (from == NONE) {
            if (raise || !isHandKind(kind)) return BAD;
            chase.codes[i] = Move.setting(kind, to);
            return 1;
        }
        if (!isField(from)) return BAD;
        chase.codes[i] = Move.going(from, to, raise);
        return 1;
    }

    public int verify() {
        if (!standing || chase.size == 0) return STATE;
        return chase.firstFault(0, Rules.FIRST_FREE);
    }

    // ---- texts

    public int write() {
        if (!standing) return STATE;
        text.setDown(current);
        return text.size;
    }

    public int type(int c) {
        if (c < 0 || c > 255) return BAD;
        if (text.size >= Text.MOST_BYTES) return FULL;
        text.add(c);
        return text.size;
    }

    public int wipe() {
        int had = text.size;
        text.size = 0;
        return had;
    }

    public int letter(int k) {
        return k < 0 || k >= text.size ? NONE : text.bytes[k];
    }

    public int read() {
        if (!standing) return STATE;
        current.leave();
        spare.begin();
        int fault = text.size == 0 ? NONE : doText();
        if (fault >= 0) {
            spare.leave();
            current.resume();
            return READ_FAULT - fault;
        }
        Play forgotten = current;
        current = spare;
        spare = forgotten;
        lookAround();
        return current.done;
    }

    public int finding() {
        return latestFinding;
    }

    public long digest() {
        long h = 17;
        for (int f = 0; f < fields; f++) h = 31 * h + (standing ? table.cells[f] : 0);
        for (int side = 0; side < 2; side++) {
            for (int kind = 1; kind < 8; kind++) h = 31 * h + inHand(side, kind);
        }
        for (int what = 0; what < 5; what++) h = 31 * h + (standing ? ofPlay(what) : 0);
        return h;
    }

    // ---- helpers

    private static boolean isSide(int side) {
        return side == 0 || side == 1;
    }

    private static boolean isHandKind(int kind) {
        return kind >= 1 && kind <= 7;
    }

    private static int asNumber(boolean yes) {
        return yes ? 1 : 0;
    }

    private boolean isField(int f) {
        return f >= 0 && f < fields;
    }

    private int inHand(int side, int kind) {
        return standing ? table.hands[8 * side + kind] : toldHands[8 * side + kind];
    }

    private int found(int finding) {
        latestFinding = finding;
        return -10 - finding;
    }

    private void lookAround() {
        lawful = rules.listLawful(Rules.OF_THE_STAND);
    }

    private int stateOfPlay() {
        return lawful == 0 ? 1 : current.ending();
    }

    private int ofPlay(int what) {
        switch (what) {
            case 0: return table.mover;
            case 1: return stateOfPlay();
            case 2: return current.done;
            case 3: return current.known - current.done;
            case 4: return current.times;
            default: return asNumber(current.latestGaveCheck());
        }
    }

    /** Does THE TEXT's MOVES in the spare PLAY: the place of the first that fails, or NONE. */
    private int doText() {
        int start = 0;
        for (int at = 0; at <= text.size; at++) {
            if (at < text.size && text.bytes[at] != Text.SPACE) continue;
            int code = text.moveBetween(start, at);
            if (code == NONE || !spare.isOpen() || rules.faultOf(code) != 0) return start;
            spare.advance(table.withTaken(code));
            start = at + 1;
        }
        return NONE;
    }

    /** The board's shape, and where each KIND can go on it. */
    private static final class Ways {
        /**
         * Directions 0 to 9 are SIDE 0's bits; SIDE 1's bits are those turned about, which is why there are two
         * more, 10 and 11.
         */
        static final int ROUND = 8, DIRECTIONS = 12, STEP_BITS = 10;
        static final int[] TURNED = {4, 5, 6, 7, 0, 1, 2, 3, 10, 11, 8, 9};
        private static final int[] ROWS_MORE = {-1, -1, 0, 1, 1, 1, 0, -1, -2, -2, 2, 2};
        private static final int[] COLUMNS_MORE = {0, 1, 1, 1, 0, -1, -1, -1, 1, -1, -1, 1};
        private static final int[] FIRST_STEPS = {255, 1, 171, 215, 0, 0, 0, 768, 0, 215, 215, 0, 170, 85, 215, 215};
        private static final int[] FIRST_RUNS = {0, 0, 0, 0, 85, 170, 1, 0, 0, 0, 0, 0, 85, 170, 0, 0};

        final int n;
        final int fields;
        /** The FIELD behind one in a direction, at (direction * fields + FIELD), or NONE. */
        final int[] next;
        /** The directions in which there is a FIELD behind one, as bits. */
        final int[] open;
        /** Whether a FIELD is in the ZONE of a SIDE, at (SIDE * fields + FIELD). */
        final boolean[] zone;
        /** The bits as told, by KIND, 8 more if RAISED. */
        final int[] steps = new int[16];
        final int[] runs = new int[16];
        /** The same as bits of directions, by items. */
        final int[] stepDirections = new int[33];
        final int[] runDirections = new int[33];
        final int[] marks = new int[8];

        Ways(int n) {
            this.n = n;
            fields = n * n;
            next = new int[DIRECTIONS * fields];
            open = new int[fields];
            zone = new boolean[2 * fields];
            for (int f = 0; f < fields; f++) {
                linkField(f);
                markZones(f);
            }
            for (int type = 0; type < 16; type++) tell(type, FIRST_STEPS[type], FIRST_RUNS[type]);
            marks[1] = 3;
        }

        static boolean areSteps(int bits) {
            return bits >= 0 && bits < 1 << STEP_BITS;
        }

        static boolean areRuns(int bits) {
            return bits >= 0 && bits < 1 << ROUND;
        }

        private void linkField(int f) {
            for (int d = 0; d < DIRECTIONS; d++) {
                int row = f / n + ROWS_MORE[d];
                int column = f % n + COLUMNS_MORE[d];
                boolean onBoard = row >= 0 && row < n && column >= 0 && column < n;
                next[d * fields + f] = onBoard ? row * n + column : NONE;
                if (onBoard) open[f] |= 1 << d;
            }
        }

        private void markZones(int f) {
            int deep = n == 5 ? 1 : 2;
            zone[f] = f / n < deep;
            zone[fields + f] = f / n >= n - deep;
        }

        /** Tells a KIND (8 more: as a RAISED one). */
        void tell(int type, int stepBits, int runBits) {
            steps[type] = stepBits;
            runs[type] = runBits;
            stepDirections[1 + type] = stepBits;
            runDirections[1 + type] = runBits;
            stepDirections[17 + type] = turnedBits(stepBits);
            runDirections[17 + type] = turnedBits(runBits);
        }

        private static int turnedBits(int bits) {
            int turned = 0;
            for (int bit = 0; bit < STEP_BITS; bit++) {
                if ((bits >> bit & 1) != 0) turned |= 1 << TURNED[bit];
            }
            return turned;
        }

        boolean hasRaised(int kind) {
            return (steps[kind + 8] | runs[kind + 8]) != 0;
        }

        /** Whether a man, told by its item, could go on from a FIELD on a BOARD that is empty else. */
        boolean goesOn(int man, int f) {
            return ((stepDirections[man] | runDirections[man]) & open[f]) != 0;
        }

        boolean canBeRaised(int man, int from, int to) {
            int type = man - 1 & 15;
            int ofSide = man > 16 ? fields : 0;
            return type < 8 && (steps[type + 8] | runs[type + 8]) != 0 && (zone[ofSide + from] || zone[ofSide + to]);
        }
    }

    /** What an item tells of a man. */
    private static final class Man {
        static final int RAISED = 8;

        static int itemOf(int side, int kind) {
            return 1 + kind + 16 * side;
        }

        /** NONE for an empty FIELD. */
        static int sideOf(int item) {
            return (item + 15 >> 4) - 1;
        }

        static int kindOf(int item) {
            return item - 1 & 7;
        }

        /** The KIND, 8 more if RAISED. */
        static int typeOf(int item) {
            return item - 1 & 15;
        }

        static boolean isRaised(int item) {
            return item != 0 && (item - 1 & RAISED) != 0;
        }
    }

    /**
     * A MOVE as a number: to where (bits 0 to 5), from where (6 to 11), whether it RAISES (12), the KIND that is set
     * (13 to 15), and the item that is taken (16 to 21), so that it can be gone back over.
     */
    private static final class Move {
        static final int OUTSIDE = 63;
        static final int RAISE = 1 << 12;
        /** What tells two MOVES of one stand apart. */
        static final int WITHOUT_TAKEN = 0xFFFF;

        static int going(int from, int to, boolean raise) {
            return from << 6 | to | (raise ? RAISE : 0);
        }

        static int setting(int kind, int to) {
            return kind << 13 | OUTSIDE << 6 | to;
        }

        static boolean isSetting(int code) {
            return (code >> 6 & 63) == OUTSIDE;
        }

        static int fromOf(int code) {
            return isSetting(code) ? NONE : code >> 6 & 63;
        }

        static int toOf(int code) {
            return code & 63;
        }

        static boolean raises(int code) {
            return (code & RAISE) != 0;
        }

        static int setKindOf(int code) {
            return isSetting(code) ? code >> 13 & 7 : NONE;
        }

        static int takenKindOf(int code) {
            int taken = code >> 16;
            return taken == 0 ? NONE : Man.kindOf(taken);
        }
    }

    /** The men on the board and in the hands, and whose turn it is. */
    private static final class Table {
        private final Ways ways;
        private final int n;
        private final int fields;
        final int[] cells;
        /** By 8 times the SIDE and the KIND. */
        final int[] hands = new int[16];
        final int[] kings = new int[2];
        final int[] reached;
        int mover;

        Table(Ways ways) {
            this.ways = ways;
            n = ways.n;
            fields = ways.fields;
            cells = new int[fields];
            reached = new int[fields];
        }

        /** How many men the LINES tell, or NONE if an item tells nothing that could be. */
        int load(Lines lines) {
            int men = 0;
            for (int f = 0; f < fields; f++) {
                int item = lines.told(f / n, f % n);
                if (item < 0 || item > 32) return NONE;
                if (Man.isRaised(item) && !ways.hasRaised(Man.kindOf(item))) return NONE;
                cells[f] = item;
                if (item != 0) men++;
            }
            return men;
        }

        /** Whether each SIDE has just one KING. */
        boolean findKings() {
            kings[0] = NONE;
            kings[1] = NONE;
            for (int f = 0; f < fields; f++) {
                if (cells[f] == 0 || Man.kindOf(cells[f]) != 0) continue;
                int side = Man.sideOf(cells[f]);
                if (kings[side] != NONE) return false;
                kings[side] = f;
            }
            return kings[0] != NONE && kings[1] != NONE;
        }

        int withTaken(int code) {
            return code | cells[Move.toOf(code)] << 16;
        }

        int moverKind(int code) {
            return Move.isSetting(code) ? Move.setKindOf(code) : Man.kindOf(cells[Move.fromOf(code)]);
        }

        void apply(int code) {
            int to = code & 63;
            int from = code >> 6 & 63;
            if (from == Move.OUTSIDE) {
                int kind = code >> 13 & 7;
                cells[to] = Man.itemOf(mover, kind);
                hands[8 * mover + kind]--;
            } else {
                int man = cells[from];
                int taken = code >> 16;
                cells[from] = 0;
                cells[to] = (code & Move.RAISE) != 0 ? man + Man.RAISED : man;
                if (taken != 0) hands[8 * mover + Man.kindOf(taken)]++;
                if (Man.kindOf(man) == 0) kings[mover] = to;
            }
            mover = 1 - mover;
        }

        void revert(int code) {
            int to = code & 63;
            int from = code >> 6 & 63;
            mover = 1 - mover;
            if (from == Move.OUTSIDE) {
                cells[to] = 0;
                hands[8 * mover + (code >> 13 & 7)]++;
            } else {
                int man = (code & Move.RAISE) != 0 ? cells[to] - Man.RAISED : cells[to];
                int taken = code >> 16;
                cells[from] = man;
                cells[to] = taken;
                if (taken != 0) hands[8 * mover + Man.kindOf(taken)]--;
                if (Man.kindOf(man) == 0) kings[mover] = from;
            }
        }

        boolean inCheck(int side) {
            return attacked(1 - side, kings[side]);
        }

        /** Looks from the FIELD outwards: in each direction the nearest man alone can come there. */
        boolean attacked(int side, int f) {
            for (int d = 0; d < Ways.DIRECTIONS; d++) {
                int at = ways.next[d * fields + f];
                if (at < 0) continue;
                int coming = Ways.TURNED[d];
                int far = d < Ways.ROUND ? n : 2;
                int man = cells[at];
                if (Man.sideOf(man) == side && (ways.stepDirections[man] >> coming & 1) != 0) return true;
                for (int step = 2; step < far && man == 0; step++) {
                    at = ways.next[d * fields + at];
                    if (at < 0) break;
                    man = cells[at];
                }
                if (Man.sideOf(man) == side && (ways.runDirections[man] >> coming & 1) != 0) return true;
            }
            return false;
        }

        /** Fills in the FIELDS that the man on a FIELD REACHES, each once, in order: how many. */
        int reach(int from) {
            int man = cells[from];
            if (man == 0) return 0;
            int side = Man.sideOf(man);
            int steps = ways.steps[Man.typeOf(man)];
            int runs = ways.runs[Man.typeOf(man)];
            int many = 0;
            for (int bit = 0; bit < Ways.STEP_BITS; bit++) {
                if ((steps >> bit & 1) == 0) continue;
                int to = ways.next[(side == 0 ? bit : Ways.TURNED[bit]) * fields + from];
                if (to >= 0) reached[many++] = to;
            }
            for (int bit = 0; bit < Ways.ROUND; bit++) {
                if ((runs >> bit & 1) == 0) continue;
                int base = (side == 0 ? bit : Ways.TURNED[bit]) * fields;
                int to = from;
                for (int step = 1; step < n; step++) {
                    to = ways.next[base + to];
                    if (to < 0) break;
                    // Only the nearest FIELD of a run can be a step's too: that of the same bit.
                    if (step > 1 || (steps >> bit & 1) == 0) reached[many++] = to;
                    if (cells[to] != 0) break;
                }
            }
            return many;
        }
    }

    /** Which MOVES are lawful; its lists lie in segments, so that one can be gone through while others are made. */
    private static final class Rules {
        static final int OF_THE_STAND = 1, FIRST_FREE = 2;
        private static final int OF_MATES = 0;
        /** Behind FIRST_FREE a chase needs two for each of 4 HUNTS. */
        private static final int SEGMENTS = FIRST_FREE + 8;
        /** A FIELD is come to by 8 directions and 2 jumps (of each the nearest man), RAISED or not, and by 7 KINDS. */
        private static final int MOST_TO_A_FIELD = 27;
        private static final int FIRST_MARK = 1, SECOND_MARK = 2;

        private final Ways ways;
        private final Table table;
        private final int width;
        final int[] list;

        Rules(Ways ways, Table table) {
            this.ways = ways;
            this.table = table;
            width = MOST_TO_A_FIELD * ways.fields;
            list = new int[SEGMENTS * width];
        }

        int startOf(int segment) {
            return segment * width;
        }

        int listed(int segment, int i) {
            return list[segment * width + i];
        }

        /** Lists all that only CHECK or MARK 2 can still forbid: the place behind the last one. */
        int fill(int segment) {
            int end = segment * width;
            int mover = table.mover;
            for (int f = 0; f < ways.fields; f++) {
                if (Man.sideOf(table.cells[f]) == mover) end = addGoings(f, table.reach(f), end);
            }
            for (int kind = 1; kind < 8; kind++) {
                if (table.hands[8 * mover + kind] > 0) end = addSettings(kind, end);
            }
            return end;
        }

        private int addGoings(int from, int many, int start) {
            int end = start;
            int man = table.cells[from];
            boolean raised = Man.isRaised(man);
            for (int i = 0; i < many; i++) {
                int to = table.reached[i];
                int taken = table.cells[to];
                if (Man.sideOf(taken) == table.mover) continue;
                int code = taken << 16 | from << 6 | to;
                if (raised || ways.goesOn(man, to)) list[end++] = code;
                if (ways.canBeRaised(man, from, to)) list[end++] = code | Move.RAISE;
            }
            return end;
        }

        private int addSettings(int kind, int start) {
            int end = start;
            int man = Man.itemOf(table.mover, kind);
            int shut = columnsShutTo(kind, man);
            int column = 0;
            for (int f = 0; f < ways.fields; f++) {
                boolean free = table.cells[f] == 0 && (shut >> column & 1) == 0;
                if (free && ways.goesOn(man, f)) list[end++] = Move.setting(kind, f);
                column = column + 1 < ways.n ? column + 1 : 0;
            }
            return end;
        }

        /** The columns, as bits, in which MARK 1 forbids to set a man. */
        private int columnsShutTo(int kind, int man) {
            if ((ways.marks[kind] & FIRST_MARK) == 0) return 0;
            int shut = 0;
            for (int f = 0; f < ways.fields; f++) {
                if (table.cells[f] == man) shut |= 1 << f % ways.n;
            }
            return shut;
        }

        /** Lists the lawful MOVES: how many. */
        int listLawful(int segment) {
            boolean calm = !table.inCheck(table.mover);
            int start = segment * width;
            int filled = fill(segment);
            int end = start;
            for (int i = start; i < filled; i++) {
                int code = list[i];
                // A SETTING opens no way to a KING, and most lists are mostly SETTINGS.
                boolean lawful = calm && Move.isSetting(code) && !hasSecondMark(code);
                if (!lawful) {
                    table.apply(code);
                    lawful = !table.inCheck(1 - table.mover) && !isForbiddenMate(code);
                    table.revert(code);
                }
                if (lawful) list[end++] = code;
            }
            return end - start;
        }

        private boolean hasSecondMark(int setting) {
            return (ways.marks[setting >> 13 & 7] & SECOND_MARK) != 0;
        }

        /** Whether a filled MOVE that has just been applied is lawful. */
        boolean holds(int code) {
            return !table.inCheck(1 - table.mover) && !isForbiddenMate(code);
        }

        /** Whether what has just been applied is a SETTING with MARK 2 that is MATE at once. */
        private boolean isForbiddenMate(int code) {
            int side = table.mover;
            if (!Move.isSetting(code) || !hasSecondMark(code) || !table.inCheck(side)) return false;
            int end = fill(OF_MATES);
            for (int i = startOf(OF_MATES); i < end; i++) {
                int answer = list[i];
                table.apply(answer);
                boolean escapes = !table.inCheck(side);
                table.revert(answer);
                if (escapes) return false;
            }
            return true;
        }

        /** Why a MOVE is none, as why() and whySet() tell it; 0 if it is one. */
        int faultOf(int code) {
            boolean setting = Move.isSetting(code);
            int fault = setting ? faultOfSetting(code >> 13 & 7, code & 63) : faultOfGoing(code);
            if (fault != 0) return fault;
            int whole = table.withTaken(code);
            table.apply(whole);
            if (table.inCheck(1 - table.mover)) fault = setting ? 5 : 6;
            else if (isForbiddenMate(whole)) fault = 6;
            table.revert(whole);
            return fault;
        }

        private int faultOfGoing(int code) {
            int from = code >> 6 & 63;
            int to = code & 63;
            int man = table.cells[from];
            int there = table.cells[to];
            if (Man.sideOf(man) != table.mover) return 1;
            if (!reaches(from, to)) return 2;
            if (Man.sideOf(there) == table.mover) return 3;
            if (Move.raises(code)) return ways.canBeRaised(man, from, to) ? 0 : 4;
            return Man.isRaised(man) || ways.goesOn(man, to) ? 0 : 5;
        }

        private boolean reaches(int from, int to) {
            int many = table.reach(from);
            for (int i = 0; i < many; i++) {
                if (table.reached[i] == to) return true;
            }
            return false;
        }

        private int faultOfSetting(int kind, int f) {
            int man = Man.itemOf(table.mover, kind);
            if (table.hands[8 * table.mover + kind] <= 0) return 1;
            if (table.cells[f] != 0) return 2;
            if (!ways.goesOn(man, f)) return 3;
            return (columnsShutTo(kind, man) >> f % ways.n & 1) != 0 ? 4 : 0;
        }

        /** How many rows of so many MOVES there are; counting ends as soon as there are more than most. */
        private int countRows(int many, int segment, int most) {
            int first = listLawful(segment);
            if (many <= 1 || segment + 1 >= SEGMENTS) return first;
            int count = 0;
            for (int i = 0; i < first && count <= most; i++) {
                int code = listed(segment, i);
                table.apply(code);
                count += countRows(many - 1, segment + 1, most - count);
                table.revert(code);
            }
            return count;
        }
    }

    /** MOVES from a first STAND on, with what is needed to see STANDS that come again. */
    private static final class Play {
        static final int MOST_MOVES = 300;
        private static final int TIMES_TO_END = 4;
        /** A STAND as longs: 10 FIELDS in each of 5, then a HAND in each of 2 (no count in it can come to 128). */
        private static final int BOARD_WORDS = 5, FIELDS_IN_WORD = 10, WORDS = 7;

        private final Table table;
        private final int[] codes = new int[MOST_MOVES];
        private final boolean[] gaveCheck = new boolean[MOST_MOVES];
        private final long[] stands = new long[WORDS * (MOST_MOVES + 1)];
        private int starter;
        private int firstTime;
        int done;
        int known;
        int times;

        Play(Table table) {
            this.table = table;
        }

        void begin() {
            starter = table.mover;
            done = 0;
            known = 0;
            keepStand();
        }

        void advance(int code) {
            codes[done] = code;
            known = done + 1;
            repeat();
        }

        void repeat() {
            table.apply(codes[done]);
            gaveCheck[done] = table.inCheck(table.mover);
            done++;
            keepStand();
        }

        void withdraw() {
            done--;
            table.revert(codes[done]);
            countTimes();
        }

        /** Brings the table to the first STAND, so that another PLAY can begin there. */
        void leave() {
            for (int i = done - 1; i >= 0; i--) table.revert(codes[i]);
        }

        /** Brings the table back from the first STAND to this PLAY's. */
        void resume() {
            for (int i = 0; i < done; i++) table.apply(codes[i]);
        }

        boolean isOpen() {
            return done < MOST_MOVES && ending() == 0;
        }

        boolean latestGaveCheck() {
            return done > 0 && gaveCheck[done - 1];
        }

        int codeOf(int i) {
            return codes[i];
        }

        /** The STATE, as far as STANDS that come again make it. */
        int ending() {
            if (times < TIMES_TO_END) return 0;
            if (onlyChecksOf(0)) return 3;
            return onlyChecksOf(1) ? 4 : 2;
        }

        private boolean onlyChecksOf(int side) {
            // A STAND that comes again has the same SIDE to move, so each SIDE has MOVES since.
            int first = side == starter ? firstTime + (firstTime & 1) : firstTime + 1 - (firstTime & 1);
            for (int i = first; i < done; i += 2) {
                if (!gaveCheck[i]) return false;
            }
            return true;
        }

        private void keepStand() {
            int at = WORDS * done;
            for (int word = 0; word < BOARD_WORDS; word++) {
                stands[at + word] = packedFields(FIELDS_IN_WORD * word);
            }
            stands[at + BOARD_WORDS] = packedHand(0);
            stands[at + BOARD_WORDS + 1] = packedHand(8);
            countTimes();
        }

        private long packedFields(int from) {
            int to = Math.min(from + FIELDS_IN_WORD, table.cells.length);
            long packed = 0;
            for (int f = from; f < to; f++) packed = packed << 6 | table.cells[f];
            return packed;
        }

        private long packedHand(int from) {
            long packed = 0;
            for (int i = from + 1; i < from + 8; i++) packed = packed << 7 | table.hands[i];
            return packed;
        }

        private void countTimes() {
            times = 0;
            // Every other STAND has the other SIDE to move.
            for (int i = done; i >= 0; i -= 2) {
                if (!isSameStand(i, done)) continue;
                times++;
                firstTime = i;
            }
        }

        private boolean isSameStand(int a, int b) {
            for (int word = 0; word < WORDS; word++) {
                if (stands[WORDS * a + word] != stands[WORDS * b + word]) return false;
            }
            return true;
        }
    }

    /** Mates by checks, and the tree of the latest that was found. */
    private static final class Chase {
        private static final int MOST_NODES = 500;

        private final Rules rules;
        private final Table table;
        /** Each NODE costs one of the FUEL, so no more than that can be there, even while it is sought. */
        final int[] codes = new int[MOST_FUEL];
        final int[] parents = new int[MOST_FUEL];
        final int[] inside = new int[MOST_FUEL];
        int size;
        int fuel = 500;
        int used;
        boolean dry;

        Chase(Rules rules, Table table) {
            this.rules = rules;
            this.table = table;
        }

        void begin() {
            size = 0;
            used = 0;
            dry = false;
        }

        /** Whether the tree that was found may stay. */
        boolean fits() {
            if (size <= MOST_NODES) return true;
            size = 0;
            return false;
        }

        /** HUNT k on the table as it is; what goes stands behind the tree's other NODES then. */
        private boolean hunterGoes(int k, int parent, int segment) {
            if (k <= 0 || segment + 1 >= Rules.SEGMENTS) return false;
            int end = rules.fill(segment);
            boolean goes = false;
            for (int i = rules.startOf(segment); i < end && !goes && !dry; i++) {
                int code = rules.list[i];
                table.apply(code);
                if (table.inCheck(table.mover) && rules.holds(code)) goes = answersGo(k, code, parent, segment + 1);
                table.revert(code);
            }
            return goes;
        }

        /** Whether each answer to the HUNTER's MOVE, which has been applied, leaves a HUNT k - 1 that goes. */
        private boolean answersGo(int k, int code, int parent, int segment) {
            int node = addNode(code, parent);
            if (node < 0) return false;
            int end = rules.fill(segment);
            boolean goes = true;
            for (int i = rules.startOf(segment); i < end && goes; i++) {
                int answer = rules.list[i];
                table.apply(answer);
                if (rules.holds(answer)) {
                    int child = addNode(answer, node);
                    goes = child >= 0 && hunterGoes(k - 1, child, segment + 1);
                    if (goes) inside[child] = size - child - 1;
                }
                table.revert(answer);
            }
            if (goes) inside[node] = size - node - 1;
            else size = node;
            return goes;
        }

        private int addNode(int code, int parent) {
            if (used >= fuel) {
                dry = true;
                return NONE;
            }
            used++;
            codes[size] = code & Move.WITHOUT_TAKEN;
            parents[size] = parent;
            return size++;
        }

        int depthOf(int i) {
            int depth = 0;
            for (int at = parents[i]; at >= 0 && depth < size; at = parents[at]) depth++;
            return depth;
        }

        /** 1 more than the first wrong NODE at one of the HUNTER's and in it, or 0. */
        private int firstFault(int node, int segment) {
            if (node >= size || segment >= Rules.SEGMENTS) return node + 1;
            int code = codes[node];
            if (rules.faultOf(code) != 0) return node + 1;
            int whole = table.withTaken(code);
            table.apply(whole);
            int fault = table.inCheck(table.mover) ? faultInAnswers(node, segment) : node + 1;
            table.revert(whole);
            return fault;
        }

        private int faultInAnswers(int node, int segment) {
            int many = rules.listLawful(segment);
            if (many != answersIn(node)) return node + 1;
            int answer = node + 1;
            for (int i = 0; i < many; i++) {
                int code = rules.listed(segment, i);
                if (codes[answer] != (code & Move.WITHOUT_TAKEN)) return answer + 1;
                table.apply(code);
                int fault = firstFault(answer + 1, segment + 1);
                table.revert(code);
                if (fault != 0) return fault;
                answer += 1 + inside[answer];
            }
            return 0;
        }

        private int answersIn(int node) {
            int many = 0;
            int end = node + 1 + inside[node];
            for (int at = node + 1; at < end; at += 1 + inside[at]) many++;
            return many;
        }
    }

    /** THE TEXT, and how MOVES are written in it. */
    private static final class Text {
        static final int MOST_BYTES = 2000, SPACE = 32;

        private final int n;
        final int[] bytes = new int[MOST_BYTES];
        int size;

        Text(int n) {
            this.n = n;
        }

        void add(int c) {
            if (size < MOST_BYTES) bytes[size++] = c;
        }

        /** There is room for all of it, always: 300 MOVES of at most 5 bytes with what parts them are 1799. */
        void setDown(Play play) {
            size = 0;
            for (int i = 0; i < play.done; i++) {
                if (i > 0) add(SPACE);
                addMove(play.codeOf(i));
            }
        }

        private void addMove(int code) {
            if (Move.isSetting(code)) {
                add('0' + Move.setKindOf(code));
                add('*');
            } else {
                addField(Move.fromOf(code));
            }
            addField(Move.toOf(code));
            if (Move.raises(code)) add('+');
        }

        private void addField(int f) {
            add('a' + f % n);
            add('1' + f / n);
        }

        /** The MOVE that is written from a place to ahead of another, or NONE. */
        int moveBetween(int start, int end) {
            int length = end - start;
            if (length < 4 || length > 5) return NONE;
            int to = fieldAt(start + 2);
            if (to < 0) return NONE;
            if (bytes[start + 1] == '*') {
                int kind = bytes[start] - '0';
                return length == 4 && isHandKind(kind) ? Move.setting(kind, to) : NONE;
            }
            int from = fieldAt(start);
            if (from < 0 || length == 5 && bytes[start + 4] != '+') return NONE;
            return Move.going(from, to, length == 5);
        }

        private int fieldAt(int place) {
            int column = bytes[place] - 'a';
            int row = bytes[place + 1] - '1';
            return column < 0 || column >= n || row < 0 || row >= n ? NONE : n * row + column;
        }
    }

    /** Rows of bytes, chars or shorts, each LOST or not. */
    private static final class Lines {
        static final int MOST_ITEMS = 12;
        private static final int BYTES = 0, CHARS = 1;

        private final int n;
        final int[] forms;
        /** NONE: it is LOST. */
        final int[] sizes;
        final int[][] items;

        Lines(int n) {
            this.n = n;
            forms = new int[n];
            sizes = new int[n];
            items = new int[n][MOST_ITEMS];
            for (int r = 0; r < n; r++) sizes[r] = NONE;
        }

        static boolean isForm(int form) {
            return form >= 0 && form <= 2;
        }

        /** The lowest bits of a number, as a FORM has them. */
        static int narrowed(int form, int v) {
            if (form == BYTES) return (byte) v;
            return form == CHARS ? (char) v : (short) v;
        }

        boolean isLine(int r) {
            return r >= 0 && r < n;
        }

        boolean isLost(int r) {
            return sizes[r] < 0;
        }

        void renew(int r, int form, int size) {
            forms[r] = form;
            sizes[r] = size;
            for (int i = 0; i < MOST_ITEMS; i++) items[r][i] = 0;
        }

        int faultOfItem(int r, int form, int i) {
            if (isLost(r)) return NO_LINE;
            if (forms[r] != form) return OTHER_FORM;
            return i < 0 || i >= sizes[r] ? NO_ITEM : 0;
        }

        boolean hasItems(int r, int from, int many) {
            return from >= 0 && many >= 0 && many <= sizes[r] && from <= sizes[r] - many;
        }

        boolean someIsTooShort() {
            for (int r = 0; r < n; r++) {
                if (!isLost(r) && sizes[r] < n) return true;
            }
            return false;
        }

        int told(int r, int column) {
            return isLost(r) ? 0 : items[r][column];
        }
    }
}
