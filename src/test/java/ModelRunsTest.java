import java.util.Random;
import java.util.Map;
import java.util.TreeMap;

/** Runs of calls made up by a random source with a fixed seed: the program answers as the model does. */
public final class ModelRunsTest {
    private static final Map<String, Integer> SEEN = new TreeMap<>();
    private final Random random;
    private final Pair pair;
    private final int n;

    private ModelRunsTest(int seed) {
        random = new Random(seed);
        pair = new Pair("seed " + seed, random.nextInt(8) == 0 ? random.nextInt(12) - 2 : 5 + random.nextInt(3));
        n = pair.n;
    }

    public static void main(String[] args) {
        int runs = args.length > 0 ? Integer.parseInt(args[0]) : 180;
        int first = args.length > 1 ? Integer.parseInt(args[1]) : 1;
        for (int seed = first; seed < first + runs; seed++) new ModelRunsTest(seed).runUntilUsed();
        System.out.println("seen: " + SEEN);
        System.out.println(Pair.calls + " calls, " + Pair.wrong + " runs went wrong");
        if (Pair.wrong != 0) System.exit(1);
    }

    private static void seen(String what) {
        SEEN.merge(what, 1, Integer::sum);
    }

    private int upTo(int most) {
        return random.nextInt(most + 1);
    }

    private boolean oneIn(int many) {
        return random.nextInt(many) == 0;
    }

    private int anyField() {
        return oneIn(25) ? upTo(n * n + 6) - 3 : random.nextInt(n * n);
    }

    private void runUntilUsed() {
        try {
            run();
        } catch (Pair.Used used) {
            seen("used up");
        }
    }

    private void run() {
        for (int round = 0; round < 4; round++) {
            if (oneIn(3)) tellKinds();
            else if (oneIn(3)) markKinds();
            if (oneIn(3)) scribbleLines();
            if (oneIn(6)) wild();
            if (pair.model.now == null && !setUp()) continue;
            if (oneIn(2)) askSettings();
            int style = upTo(3);
            if (style == 0) chase();
            else if (style == 1) wander();
            else if (style == 2) repeatStands();
            else askAll();
            if (oneIn(3)) wild();
            if (pair.model.now != null) texts();
            pair.longCall("digest");
            seen("clear " + Math.min(1, pair.call("clear")));
            pair.longCall("digest");
        }
    }

    private int bits(int many) {
        int v = 0;
        for (int i = upTo(4); i > 0; i--) v |= 1 << random.nextInt(many);
        return v;
    }

    private void tellKinds() {
        for (int i = upTo(5); i > 0; i--) {
            int kind = upTo(7);
            boolean plain = kind == 0 && !oneIn(4);
            int raisedSteps = plain || oneIn(2) ? 0 : bits(10);
            int raisedRuns = plain || oneIn(2) ? 0 : bits(8);
            int[] a = {kind, bits(10), oneIn(2) ? 0 : bits(8), raisedSteps, raisedRuns, plain ? 0 : upTo(3)};
            if (oneIn(10)) a[random.nextInt(6)] = oneIn(2) ? -1 : 1 << (3 + upTo(8));
            pair.call("kind", a);
        }
    }

    /** The KINDS as at first, but with MARK 2 (and perhaps 1), so that MATES by SETTINGS are asked for. */
    private void markKinds() {
        for (int kind = 1; kind < 8; kind++) {
            Model.Kind k = pair.model.kinds[kind];
            pair.call("kind", kind, k.steps, k.runs, k.raisedSteps, k.raisedRuns, 2 + upTo(1));
        }
    }

    private void scribbleLines() {
        for (int i = upTo(12); i > 0; i--) {
            int r = upTo(n + 1) - 1;
            int q = upTo(n - 1);
            int form = oneIn(9) ? upTo(4) - 1 : upTo(2);
            int what = upTo(5);
            if (what == 0) pair.call("line", r, form, upTo(16) - 2);
            if (what == 1) pair.call("put", r, form, upTo(14) - 1, oneIn(2) ? random.nextInt() : upTo(70000) - 35000);
            if (what == 2) pair.call("get", r, form, upTo(14) - 1);
            if (what == 3) pair.call("copy", r, upTo(9) - 1, q, upTo(9) - 1, upTo(6) - 1);
            if (what == 4) pair.call("lose", r);
            if (what == 5) pair.call("finding");
        }
    }

    private int manItem() {
        int kind = oneIn(40) ? 0 : 1 + random.nextInt(7);
        boolean raised = oneIn(4) && (oneIn(30) || pair.model.kinds[kind].mayBeRaised());
        return 1 + kind + (raised ? 8 : 0) + 16 * upTo(1);
    }

    private boolean setUp() {
        int[] items = new int[n * n];
        int men = oneIn(3) ? upTo(n * n / 2) : upTo(8);
        for (int i = 0; i < men; i++) items[random.nextInt(n * n)] = manItem();
        items[random.nextInt(n * n)] = 1;
        items[random.nextInt(n * n)] = 17;
        if (oneIn(3)) shutIn(items, upTo(1));
        if (oneIn(40)) items[random.nextInt(n * n)] = oneIn(2) ? 33 : -1;
        for (int r = 0; r < n; r++) {
            int form = upTo(2);
            boolean empty = true;
            for (int c = 0; c < n; c++) empty &= items[n * r + c] == 0;
            if (empty && oneIn(2)) {
                pair.call("lose", r);
                continue;
            }
            pair.call("line", r, form, n + upTo(12 - n));
            for (int c = 0; c < n; c++) {
                if (items[n * r + c] != 0) pair.call("put", r, form, c, items[n * r + c] + (oneIn(40) ? 65536 : 0));
            }
        }
        for (int i = upTo(6); i > 0; i--) {
            if (oneIn(2)) pair.call("hand", upTo(1), 1 + upTo(6), upTo(3));
            else pair.call("hand", oneIn(9) ? 2 : upTo(1), upTo(8), upTo(11) - 1);
        }
        for (int i = 0; i < 2; i++) {
            int answer = pair.call("stand", oneIn(20) ? upTo(4) - 2 : upTo(1));
            seen("stand " + Math.min(answer, 1));
            if (answer >= 0) return true;
        }
        return false;
    }

    /** A KING in the corner with men of its own beside it. */
    private void shutIn(int[] items, int side) {
        for (int f = 0; f < n * n; f++) if (items[f] == 1 + 16 * side) items[f] = 0;
        int corner = random.nextInt(4);
        int row = corner < 2 ? 0 : n - 1;
        int column = corner % 2 == 0 ? 0 : n - 1;
        int in = row == 0 ? 1 : n - 2;
        int across = column == 0 ? 1 : n - 2;
        items[n * row + column] = 1 + 16 * side;
        int[] beside = {n * row + across, n * in + column, n * in + across};
        for (int f : beside) if (items[f] != 17 - 16 * side && oneIn(2)) items[f] = 2 + upTo(6) + 16 * side;
    }

    /** Every SETTING that gives CHECK, or would, if MARK 2 did not forbid it. */
    private void askSettings() {
        Model model = pair.model;
        for (int kind = 1; kind < 8; kind++) {
            for (int f = 0; f < n * n; f++) {
                if (model.now.hand[model.now.side][kind] == 0 || model.now.board[f] != null) continue;
                Model.Stand then = model.after(model.now, new Model.Mv(-1, f, false, kind));
                if (model.inCheck(then, then.side)) seen("whySet " + pair.call("whySet", kind, f));
            }
        }
        pair.call("moves");
        if (oneIn(2)) pair.call("rows", 2);
    }

    private void ask() {
        int what = upTo(16);
        if (what == 0) pair.call("field", anyField());
        if (what == 1) pair.call("has", upTo(3) - 1, upTo(9) - 1);
        if (what == 2) pair.call("attacks", oneIn(15) ? 2 : upTo(1), anyField());
        if (what == 3) pair.call("check", oneIn(15) ? -1 : upTo(1));
        if (what == 4) pair.call("moves");
        if (what >= 5 && what <= 7) pair.call("move", upTo(Math.max(1, pair.call("moves"))), upTo(6) - 1);
        if (what == 8 || what == 9) seen("why " + pair.call("why", anyField(), anyField(), upTo(1)));
        if (what >= 10 && what <= 12) askWhy();
        int kind = oneIn(20) ? upTo(9) - 1 : 1 + upTo(6);
        if (what == 13 || what == 14) seen("whySet " + pair.call("whySet", kind, anyField()));
        int many = oneIn(9) ? upTo(5) - 1 : oneIn(3) ? 3 : 1 + upTo(1);
        if (what == 15) seen("rows " + Math.min(0, pair.call("rows", many)));
        if (what == 16) pair.call("play", upTo(7) - 1);
    }

    private void askWhy() {
        int from = random.nextInt(n * n);
        Model.Man man = pair.model.now == null ? null : pair.model.now.board[from];
        if (man == null) return;
        for (int to : pair.model.reach(pair.model.now.board, man, from)) {
            seen("why " + pair.call("why", from, to, 0));
            seen("why " + pair.call("why", from, to, 1));
        }
    }

    /** Any call with any numbers; none of them may throw, and all are answered as the model does. */
    private void wild() {
        String[] calls = {
            "kind 6", "line 3", "lose 1", "put 4", "get 3", "copy 5", "hand 3", "stand 1", "field 1", "has 2",
            "attacks 2", "check 1", "moves 0", "move 2", "why 3", "whySet 2", "rows 1", "go 1", "back 0", "forth 0",
            "play 1", "fuel 1", "hunt 1", "spent 0", "tree 0", "node 2", "forge 5", "verify 0", "write 0", "type 1",
            "wipe 0", "letter 1", "read 0", "finding 0", "digest 0", "clear 0"};
        int[] numbers = {
            Integer.MIN_VALUE, Integer.MAX_VALUE, -1000, -2, -1, 0, 1, 2, 3, 4, 5, 6, 7, 8, 9, 12, 13, 24, 25, 48, 49,
            63, 64, 255, 256, 1000, 1001, 1023, 1024, 65536, 1 << 30, n * n - 1, n * n};
        for (int i = 5 + upTo(20); i > 0; i--) {
            String[] call = calls[random.nextInt(calls.length - (oneIn(4) ? 0 : 1))].split(" ");
            int[] a = new int[Integer.parseInt(call[1])];
            for (int j = 0; j < a.length; j++) a[j] = oneIn(2) ? numbers[random.nextInt(numbers.length)] : upTo(9) - 1;
            pair.longCall(call[0], a);
        }
    }

    private void askAll() {
        int moves = pair.call("moves");
        for (int i = 0; i < Math.min(moves, 20); i++) {
            for (int what = 0; what < 5; what++) pair.call("move", moves <= 20 ? i : random.nextInt(moves), what);
        }
        for (int f = 0; f < n * n; f++) pair.call("attacks", upTo(1), f);
        for (int i = 0; i < 60; i++) seen("whySet " + pair.call("whySet", 1 + upTo(6), random.nextInt(n * n)));
        for (int i = 1; i <= 3; i++) seen("rows " + Math.min(0, pair.call("rows", i)));
    }

    private void goAnywhere() {
        int moves = pair.call("moves");
        seen("go " + pair.call("go", oneIn(30) ? moves : oneIn(30) ? -1 : random.nextInt(Math.max(1, moves))));
    }

    private void wander() {
        for (int i = 20 + upTo(60); i > 0; i--) {
            if (oneIn(3)) ask();
            if (oneIn(7)) pair.call("back");
            else if (oneIn(6)) pair.call("forth");
            else goAnywhere();
            if (oneIn(4)) pair.longCall("digest");
        }
    }

    /** Goes to and fro among few MOVES, checks ahead of others, so that STANDS come again. */
    private void repeatStands() {
        for (int i = 0; i < 60; i++) {
            Model model = pair.model;
            int pick = -1;
            int best = -1;
            var all = model.movesOf(model.now);
            for (int m = 0; m < all.size(); m++) {
                Model.Stand then = model.after(model.now, all.get(m));
                int value = random.nextInt(3);
                for (Model.Stand s : model.stands) if (s.name().equals(then.name())) value += 4;
                if (model.inCheck(then, then.side)) value += 20;
                if (value > best) {
                    best = value;
                    pick = m;
                }
            }
            int state = pair.call("go", pick);
            seen("go " + state);
            pair.call("play", oneIn(2) ? 4 : 5);
            if (state != 0) {
                pair.call("play", 1);
                pair.call("go", 0);
                pair.call("back");
                pair.call("play", 1);
                pair.call("forth");
                pair.call("play", 1);
                pair.call("play", 3);
                return;
            }
        }
    }

    private void chase() {
        if (oneIn(2)) pair.call("fuel", oneIn(4) ? upTo(1002) - 1 : 1000);
        for (int i = 0; i < 6; i++) {
            int answer = pair.call("hunt", oneIn(20) ? upTo(6) - 1 : 1 + upTo(3));
            seen("hunt " + answer);
            pair.call("spent");
            int nodes = pair.call("tree");
            if (nodes > 0) {
                lookAtTree(nodes);
                return;
            }
            if (answer == 0 && oneIn(2)) pair.call("verify");
            goAnywhere();
        }
    }

    private void lookAtTree(int nodes) {
        seen("verify " + pair.call("verify"));
        for (int i = 0; i < Math.min(nodes + 1, 14); i++) {
            int node = nodes < 14 ? i : random.nextInt(nodes);
            for (int what = 0; what < 7; what++) pair.call("node", node, what);
        }
        pair.call("node", 0, oneIn(2) ? 7 : -1);
        pair.call("node", -1, 0);
        for (int i = upTo(6); i > 0; i--) forge(nodes);
        if (oneIn(2)) {
            goAnywhere();
            pair.call("tree");
            pair.call("verify");
            pair.call("back");
        }
        if (oneIn(3)) pair.call("hunt", 1 + upTo(1));
        pair.call("tree");
    }

    private void forge(int nodes) {
        int node = oneIn(12) ? nodes : random.nextInt(nodes);
        int other = random.nextInt(nodes);
        boolean likely = oneIn(2);
        int from = likely ? pair.call("node", other, 1) : oneIn(2) ? -1 : anyField();
        int to = likely ? pair.call("node", other, 2) : anyField();
        int raise = oneIn(4) ? 1 : 0;
        int kind = likely ? pair.call("node", other, 4) : upTo(8);
        seen("forge " + pair.call("forge", node, from, to, raise, kind));
        seen("verify " + Math.min(2, pair.call("verify")));
        for (int what = 0; what < 7; what++) pair.call("node", node, what);
    }

    private void texts() {
        pair.call("write");
        for (int i = 0; i < 4; i++) pair.call("letter", upTo(60) - 1);
        int had = pair.model.text.size();
        if (oneIn(2) && had > 0) {
            pair.call("read");
            seen("read whole");
        }
        for (int i = upTo(3); i > 0; i--) {
            if (oneIn(2)) typeMove();
            else pair.call("type", oneIn(6) ? upTo(300) - 20 : "abcde12345*+ ".charAt(upTo(12)));
            seen("read " + (pair.call("read") >= 0 ? "well" : "ill"));
            pair.longCall("digest");
            pair.call("play", 3);
        }
        if (oneIn(2)) pair.call("wipe");
        if (oneIn(3)) {
            pair.call("read");
            pair.call("play", 2);
        }
        pair.call("write");
    }

    private void typeMove() {
        Model model = pair.model;
        var all = model.movesOf(model.now);
        if (all.isEmpty()) return;
        String s = model.written(all.get(random.nextInt(all.size())));
        if (!model.text.isEmpty()) s = " " + s;
        if (oneIn(8)) s = s + "+";
        if (oneIn(8)) s = s.substring(0, s.length() - 1);
        for (char c : s.toCharArray()) pair.call("type", c);
    }
}
