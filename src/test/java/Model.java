import java.util.ArrayList;
import java.util.LinkedHashSet;
import java.util.List;
import java.util.Set;

/**
 * The document told once more, as plainly as can be: every stand is a copy, every list is made by asking why not.
 * The program is compared with it.
 */
final class Model {
    static final int NONE = -1, BAD = -2, STATE = -3, FULL = -4, SPENT = -5;

    record Man(int side, int kind, boolean raised) {
        int item() {
            return 1 + kind + (raised ? 8 : 0) + 16 * side;
        }
    }

    record Mv(int from, int to, boolean raise, int kind) { }

    static final class Kind {
        int steps, runs, raisedSteps, raisedRuns, marks;

        boolean mayBeRaised() {
            return raisedSteps != 0 || raisedRuns != 0;
        }
    }

    static final class Stand {
        Man[] board;
        int[][] hand = new int[2][8];
        int side;

        Stand copy() {
            Stand s = new Stand();
            s.board = board.clone();
            s.hand[0] = hand[0].clone();
            s.hand[1] = hand[1].clone();
            s.side = side;
            return s;
        }

        String name() {
            StringBuilder b = new StringBuilder();
            for (Man m : board) b.append(m == null ? 0 : m.item()).append(' ');
            for (int[] h : hand) for (int v : h) b.append(v).append(' ');
            return b.append(side).toString();
        }
    }

    static final class Node {
        Mv mv;
        Node in;
        List<Node> has = new ArrayList<>();

        int many() {
            int sum = 0;
            for (Node c : has) sum += 1 + c.many();
            return sum;
        }

        void number(List<Node> all) {
            all.add(this);
            for (Node c : has) c.number(all);
        }
    }

    static final class OutOfFuel extends RuntimeException {
        private static final long serialVersionUID = 1;
    }

    final int n;
    final Kind[] kinds = new Kind[8];
    final Object[] lines;
    final int[][] told = new int[2][8];
    final List<Stand> stands = new ArrayList<>();
    final List<Mv> done = new ArrayList<>();
    final List<Mv> undone = new ArrayList<>();
    Stand now;
    List<Node> tree = new ArrayList<>();
    int fuel = 500, used, finding;
    final List<Integer> text = new ArrayList<>();

    Model(int n) {
        this.n = n >= 5 && n <= 7 ? n : 5;
        lines = new Object[this.n];
        for (int k = 0; k < 8; k++) kinds[k] = new Kind();
        tell(0, 255, 0, 0, 0, 0);
        tell(1, 1, 0, 215, 0, 3);
        tell(2, 171, 0, 215, 0, 0);
        tell(3, 215, 0, 0, 0, 0);
        tell(4, 0, 85, 170, 85, 0);
        tell(5, 0, 170, 85, 170, 0);
        tell(6, 0, 1, 215, 0, 0);
        tell(7, 768, 0, 215, 0, 0);
    }

    void tell(int kind, int steps, int runs, int raisedSteps, int raisedRuns, int marks) {
        Kind k = kinds[kind];
        k.steps = steps;
        k.runs = runs;
        k.raisedSteps = raisedSteps;
        k.raisedRuns = raisedRuns;
        k.marks = marks;
    }

    static boolean within(int v, int least, int most) {
        return v >= least && v <= most;
    }

    boolean isField(int f) {
        return within(f, 0, n * n - 1);
    }

    int found(int number) {
        finding = number;
        return -10 - number;
    }

    // ---- kinds, lines

    int kind(int kind, int steps, int runs, int raisedSteps, int raisedRuns, int marks) {
        if (!within(kind, 0, 7) || !within(steps, 0, 1023) || !within(runs, 0, 255)) return BAD;
        if (!within(raisedSteps, 0, 1023) || !within(raisedRuns, 0, 255) || !within(marks, 0, 3)) return BAD;
        if (kind == 0 && (raisedSteps != 0 || raisedRuns != 0 || marks != 0)) return BAD;
        if (now != null) return STATE;
        tell(kind, steps, runs, raisedSteps, raisedRuns, marks);
        return 1;
    }

    int line(int r, int form, int many) {
        if (!within(r, 0, n - 1) || !within(form, 0, 2) || many > 12) return BAD;
        if (many < 0) return found(5);
        lines[r] = form == 0 ? new byte[many] : form == 1 ? new char[many] : new short[many];
        return many;
    }

    static int sizeOf(Object line) {
        return java.lang.reflect.Array.getLength(line);
    }

    static int formOf(Object line) {
        return line instanceof byte[] ? 0 : line instanceof char[] ? 1 : 2;
    }

    static int itemOf(Object line, int i) {
        if (line instanceof byte[] b) return b[i];
        if (line instanceof char[] c) return c[i];
        return ((short[]) line)[i];
    }

    int lose(int r) {
        if (!within(r, 0, n - 1)) return BAD;
        if (lines[r] == null) return found(1);
        int had = sizeOf(lines[r]);
        lines[r] = null;
        return had;
    }

    int put(int r, int form, int i, int v) {
        if (!within(r, 0, n - 1) || !within(form, 0, 2)) return BAD;
        if (lines[r] == null) return found(1);
        if (formOf(lines[r]) != form) return found(3);
        if (!within(i, 0, sizeOf(lines[r]) - 1)) return found(2);
        if (form == 0) ((byte[]) lines[r])[i] = (byte) v;
        if (form == 1) ((char[]) lines[r])[i] = (char) v;
        if (form == 2) ((short[]) lines[r])[i] = (short) v;
        return 1;
    }

    int get(int r, int form, int i) {
        if (!within(r, 0, n - 1) || !within(form, 0, 2)) return Integer.MIN_VALUE;
        if (lines[r] == null) finding = 1;
        else if (formOf(lines[r]) != form) finding = 3;
        else if (!within(i, 0, sizeOf(lines[r]) - 1)) finding = 2;
        else return itemOf(lines[r], i);
        return Integer.MIN_VALUE;
    }

    int copy(int r, int i, int q, int j, int many) {
        if (!within(r, 0, n - 1) || !within(q, 0, n - 1)) return BAD;
        if (lines[r] == null || lines[q] == null) return found(1);
        if (formOf(lines[r]) != formOf(lines[q])) return found(4);
        if (i < 0 || j < 0 || many < 0) return found(2);
        if ((long) i + many > sizeOf(lines[r]) || (long) j + many > sizeOf(lines[q])) return found(2);
        int[] were = new int[many];
        for (int t = 0; t < many; t++) were[t] = itemOf(lines[r], i + t);
        for (int t = 0; t < many; t++) put(q, formOf(lines[q]), j + t, were[t]);
        return 1;
    }

    int hand(int side, int kind, int many) {
        if (!within(side, 0, 1) || !within(kind, 1, 7) || !within(many, 0, 9)) return BAD;
        if (now != null) return STATE;
        int was = told[side][kind];
        told[side][kind] = many;
        return was;
    }

    int stand(int side) {
        if (!within(side, 0, 1)) return BAD;
        if (now != null) return STATE;
        for (Object line : lines) if (line != null && sizeOf(line) < n) return found(2);
        Stand s = new Stand();
        s.board = new Man[n * n];
        int men = 0;
        int[] kings = new int[2];
        for (int f = 0; f < n * n; f++) {
            Object line = lines[f / n];
            int item = line == null ? 0 : itemOf(line, f % n);
            if (!within(item, 0, 32)) return BAD;
            if (item == 0) continue;
            Man m = new Man((item - 1) / 16, (item - 1) % 8, (item - 1) / 8 % 2 == 1);
            if (m.raised && !kinds[m.kind].mayBeRaised()) return BAD;
            if (m.kind == 0) kings[m.side]++;
            s.board[f] = m;
            men++;
        }
        if (kings[0] != 1 || kings[1] != 1) return BAD;
        s.hand[0] = told[0].clone();
        s.hand[1] = told[1].clone();
        s.side = side;
        if (inCheck(s, 1 - side)) return BAD;
        now = s;
        stands.add(s.copy());
        return men;
    }

    int clear() {
        if (now == null) return STATE;
        int had = done.size();
        now = null;
        stands.clear();
        done.clear();
        undone.clear();
        tree.clear();
        return had;
    }

    // ---- the rules

    static final int[][] WAY = {
        {-1, 0}, {-1, 1}, {0, 1}, {1, 1}, {1, 0}, {1, -1}, {0, -1}, {-1, -1}, {-2, 1}, {-2, -1}};

    int beyond(int f, int side, int way, int times) {
        int turn = side == 0 ? times : -times;
        int row = f / n + turn * WAY[way][0];
        int column = f % n + turn * WAY[way][1];
        return within(row, 0, n - 1) && within(column, 0, n - 1) ? n * row + column : NONE;
    }

    Set<Integer> reach(Man[] board, Man m, int f) {
        Kind k = kinds[m.kind];
        int steps = m.raised ? k.raisedSteps : k.steps;
        int runs = m.raised ? k.raisedRuns : k.runs;
        Set<Integer> set = new LinkedHashSet<>();
        for (int way = 0; way < 10; way++) {
            if ((steps & 1 << way) != 0 && beyond(f, m.side, way, 1) != NONE) set.add(beyond(f, m.side, way, 1));
        }
        for (int way = 0; way < 8; way++) {
            if ((runs & 1 << way) == 0) continue;
            for (int times = 1; beyond(f, m.side, way, times) != NONE; times++) {
                int to = beyond(f, m.side, way, times);
                set.add(to);
                if (board[to] != null) break;
            }
        }
        return set;
    }

    boolean couldGoOn(Man m, int f) {
        return !reach(new Man[n * n], m, f).isEmpty();
    }

    boolean attacks(Stand s, int side, int f) {
        for (int g = 0; g < n * n; g++) {
            Man m = s.board[g];
            if (m != null && m.side == side && reach(s.board, m, g).contains(f)) return true;
        }
        return false;
    }

    boolean inCheck(Stand s, int side) {
        for (int f = 0; f < n * n; f++) {
            Man m = s.board[f];
            if (m != null && m.side == side && m.kind == 0) return attacks(s, 1 - side, f);
        }
        throw new IllegalStateException("a king is gone");
    }

    boolean inZone(int side, int f) {
        int deep = n == 5 ? 1 : 2;
        int row = side == 0 ? f / n : n - 1 - f / n;
        return row < deep;
    }

    Stand after(Stand s, Mv mv) {
        Stand t = s.copy();
        if (mv.from == NONE) {
            t.hand[s.side][mv.kind]--;
            t.board[mv.to] = new Man(s.side, mv.kind, false);
        } else {
            Man m = s.board[mv.from];
            if (s.board[mv.to] != null) t.hand[s.side][s.board[mv.to].kind]++;
            t.board[mv.from] = null;
            t.board[mv.to] = new Man(m.side, m.kind, m.raised || mv.raise);
        }
        t.side = 1 - s.side;
        return t;
    }

    int whyNot(Stand s, Mv mv, boolean withSecondMark) {
        return mv.from == NONE ? whyNotSet(s, mv, withSecondMark) : whyNotGo(s, mv);
    }

    int whyNotGo(Stand s, Mv mv) {
        Man m = s.board[mv.from];
        if (m == null || m.side != s.side) return 1;
        if (!reach(s.board, m, mv.from).contains(mv.to)) return 2;
        if (s.board[mv.to] != null && s.board[mv.to].side == s.side) return 3;
        boolean zone = inZone(s.side, mv.from) || inZone(s.side, mv.to);
        if (mv.raise && (m.raised || !kinds[m.kind].mayBeRaised() || !zone)) return 4;
        if (!mv.raise && !m.raised && !couldGoOn(m, mv.to)) return 5;
        return inCheck(after(s, mv), s.side) ? 6 : 0;
    }

    int whyNotSet(Stand s, Mv mv, boolean withSecondMark) {
        Man m = new Man(s.side, mv.kind, false);
        if (s.hand[s.side][mv.kind] == 0) return 1;
        if (s.board[mv.to] != null) return 2;
        if (!couldGoOn(m, mv.to)) return 3;
        if ((kinds[mv.kind].marks & 1) != 0) {
            for (int f = mv.to % n; f < n * n; f += n) if (m.equals(s.board[f])) return 4;
        }
        Stand t = after(s, mv);
        if (inCheck(t, s.side)) return 5;
        boolean asked = withSecondMark && (kinds[mv.kind].marks & 2) != 0;
        return asked && inCheck(t, t.side) && movesOf(t, false).isEmpty() ? 6 : 0;
    }

    List<Mv> movesOf(Stand s, boolean withSecondMark) {
        List<Mv> all = new ArrayList<>();
        for (int f = 0; f < n * n; f++) {
            Man m = s.board[f];
            if (m == null || m.side != s.side) continue;
            for (int to : reach(s.board, m, f)) {
                for (int raise = 0; raise < 2; raise++) {
                    Mv mv = new Mv(f, to, raise == 1, NONE);
                    if (whyNotGo(s, mv) == 0) all.add(mv);
                }
            }
        }
        for (int kind = 1; kind < 8; kind++) {
            for (int f = 0; f < n * n && s.hand[s.side][kind] > 0; f++) {
                Mv mv = new Mv(NONE, f, false, kind);
                if (whyNotSet(s, mv, withSecondMark) == 0) all.add(mv);
            }
        }
        return all;
    }

    List<Mv> movesOf(Stand s) {
        return movesOf(s, true);
    }

    // ---- asks of the stand

    int field(int f) {
        if (!isField(f) || now == null) return BAD;
        return now.board[f] == null ? 0 : now.board[f].item();
    }

    int has(int side, int kind) {
        if (!within(side, 0, 1) || !within(kind, 1, 7)) return BAD;
        return now == null ? told[side][kind] : now.hand[side][kind];
    }

    int attacks(int side, int f) {
        if (!within(side, 0, 1) || !isField(f)) return BAD;
        if (now == null) return STATE;
        return attacks(now, side, f) ? 1 : 0;
    }

    int check(int side) {
        if (!within(side, 0, 1)) return BAD;
        if (now == null) return STATE;
        return inCheck(now, side) ? 1 : 0;
    }

    int moves() {
        return now == null ? STATE : movesOf(now).size();
    }

    int move(int i, int what) {
        if (now == null) return STATE;
        List<Mv> all = movesOf(now);
        if (!within(i, 0, all.size() - 1) || !within(what, 0, 4)) return BAD;
        Mv mv = all.get(i);
        if (what == 0) return mv.from;
        if (what == 1) return mv.to;
        if (what == 2) return mv.raise ? 1 : 0;
        if (what == 3) return mv.from == NONE ? mv.kind : now.board[mv.from].kind;
        return now.board[mv.to] == null ? NONE : now.board[mv.to].kind;
    }

    int why(int from, int to, boolean raise) {
        if (!isField(from) || !isField(to)) return BAD;
        if (now == null) return STATE;
        return whyNotGo(now, new Mv(from, to, raise, NONE));
    }

    int whySet(int kind, int f) {
        if (!within(kind, 1, 7) || !isField(f)) return BAD;
        if (now == null) return STATE;
        return whyNotSet(now, new Mv(NONE, f, false, kind), true);
    }

    int rows(int many) {
        if (!within(many, 1, 3)) return BAD;
        if (now == null) return STATE;
        long count = rowsFrom(now, many, 20000);
        return count > 20000 ? SPENT : (int) count;
    }

    long rowsFrom(Stand s, int many, long most) {
        List<Mv> all = movesOf(s);
        if (many == 1) return all.size();
        long sum = 0;
        for (Mv mv : all) {
            sum += rowsFrom(after(s, mv), many - 1, most - sum);
            if (sum > most) return sum;
        }
        return sum;
    }

    // ---- the play

    int state() {
        if (movesOf(now).isEmpty()) return 1;
        return stateByStands();
    }

    int stateByStands() {
        if (timesCome() < 4) return 0;
        int first = 0;
        while (!stands.get(first).name().equals(now.name())) first++;
        boolean[] only = {true, true};
        for (int i = first; i < done.size(); i++) {
            Stand t = stands.get(i + 1);
            if (!inCheck(t, t.side)) only[1 - t.side] = false;
        }
        return only[0] ? 3 : only[1] ? 4 : 2;
    }

    int timesCome() {
        int times = 0;
        for (Stand s : stands) if (s.name().equals(now.name())) times++;
        return times;
    }

    void doMove(Mv mv) {
        now = after(now, mv);
        stands.add(now);
        done.add(mv);
    }

    int go(int i) {
        if (now == null) return STATE;
        List<Mv> all = movesOf(now);
        if (!within(i, 0, all.size() - 1)) return BAD;
        if (state() != 0) return STATE;
        if (done.size() == 300) return FULL;
        undone.clear();
        doMove(all.get(i));
        return state();
    }

    int back() {
        if (now == null || done.isEmpty()) return STATE;
        undone.add(done.remove(done.size() - 1));
        stands.remove(stands.size() - 1);
        now = stands.get(stands.size() - 1);
        return done.size();
    }

    int forth() {
        if (now == null || undone.isEmpty()) return STATE;
        doMove(undone.remove(undone.size() - 1));
        return done.size();
    }

    int play(int what) {
        if (!within(what, 0, 5)) return BAD;
        if (now == null) return STATE;
        if (what == 0) return now.side;
        if (what == 1) return state();
        if (what == 2) return done.size();
        if (what == 3) return undone.size();
        if (what == 4) return timesCome();
        return !done.isEmpty() && inCheck(now, now.side) ? 1 : 0;
    }

    // ---- chases

    int fuel(int most) {
        if (!within(most, 1, 1000)) return BAD;
        int was = fuel;
        fuel = most;
        return was;
    }

    void pay() {
        if (used == fuel) throw new OutOfFuel();
        used++;
    }

    Node huntFrom(Stand s, int k) {
        if (k == 0) return null;
        for (Mv mv : movesOf(s)) {
            Stand t = after(s, mv);
            if (!inCheck(t, t.side)) continue;
            pay();
            Node node = new Node();
            node.mv = mv;
            if (answered(node, t, k)) return node;
        }
        return null;
    }

    boolean answered(Node node, Stand t, int k) {
        for (Mv answer : movesOf(t)) {
            pay();
            Node child = new Node();
            child.mv = answer;
            child.in = node;
            node.has.add(child);
            Node next = huntFrom(after(t, answer), k - 1);
            if (next == null) return false;
            next.in = child;
            child.has.add(next);
        }
        return true;
    }

    int hunt(int most) {
        if (!within(most, 1, 4)) return BAD;
        if (now == null) return STATE;
        used = 0;
        tree = new ArrayList<>();
        try {
            for (int k = 1; k <= most; k++) {
                Node root = huntFrom(now, k);
                if (root == null) continue;
                if (1 + root.many() > 500) return FULL;
                root.number(tree);
                return k;
            }
            return 0;
        } catch (OutOfFuel out) {
            return SPENT;
        }
    }

    int spent() {
        return used;
    }

    int tree() {
        return tree.size();
    }

    int node(int i, int what) {
        if (!within(i, 0, tree.size() - 1) || !within(what, 0, 6)) return BAD;
        Node node = tree.get(i);
        if (what == 0) return node.in == null ? NONE : tree.indexOf(node.in);
        if (what == 1) return node.mv.from;
        if (what == 2) return node.mv.to;
        if (what == 3) return node.mv.raise ? 1 : 0;
        if (what == 4) return node.mv.kind;
        if (what == 6) return node.many();
        int depth = 0;
        for (Node up = node.in; up != null; up = up.in) depth++;
        return depth;
    }

    int forge(int i, int from, int to, boolean raise, int kind) {
        if (!within(i, 0, tree.size() - 1) || !isField(to)) return BAD;
        if (from == NONE && (raise || !within(kind, 1, 7))) return BAD;
        if (from != NONE && !isField(from)) return BAD;
        tree.get(i).mv = from == NONE ? new Mv(NONE, to, false, kind) : new Mv(from, to, raise, NONE);
        return 1;
    }

    int verify() {
        if (now == null || tree.isEmpty()) return STATE;
        Node wrong = firstWrong(tree.get(0), now);
        return wrong == null ? 0 : 1 + tree.indexOf(wrong);
    }

    Node firstWrong(Node node, Stand s) {
        if (whyNot(s, node.mv, true) != 0) return node;
        Stand t = after(s, node.mv);
        if (!inCheck(t, t.side)) return node;
        List<Mv> answers = movesOf(t);
        if (answers.size() != node.has.size()) return node;
        for (int i = 0; i < answers.size(); i++) {
            Node child = node.has.get(i);
            if (!child.mv.equals(answers.get(i)) || child.has.size() != 1) return child;
            Node wrong = firstWrong(child.has.get(0), after(t, answers.get(i)));
            if (wrong != null) return wrong;
        }
        return null;
    }

    // ---- texts

    String nameOf(int f) {
        return "" + "abcdefg".charAt(f % n) + "1234567".charAt(f / n);
    }

    String written(Mv mv) {
        if (mv.from == NONE) return mv.kind + "*" + nameOf(mv.to);
        return nameOf(mv.from) + nameOf(mv.to) + (mv.raise ? "+" : "");
    }

    int write() {
        if (now == null) return STATE;
        List<String> all = new ArrayList<>();
        for (Mv mv : done) all.add(written(mv));
        String s = String.join(" ", all);
        if (s.length() > 2000) return FULL;
        text.clear();
        for (char c : s.toCharArray()) text.add((int) c);
        return text.size();
    }

    int type(int c) {
        if (!within(c, 0, 255)) return BAD;
        if (text.size() == 2000) return FULL;
        text.add(c);
        return text.size();
    }

    int wipe() {
        int had = text.size();
        text.clear();
        return had;
    }

    int letter(int k) {
        return within(k, 0, text.size() - 1) ? text.get(k) : NONE;
    }

    int read() {
        if (now == null) return STATE;
        Model other = new Model(n);
        System.arraycopy(kinds, 0, other.kinds, 0, 8);
        other.now = stands.get(0);
        other.stands.add(other.now);
        StringBuilder s = new StringBuilder();
        for (int c : text) s.append((char) c);
        int place = 0;
        if (s.length() > 0) {
            for (String part : s.toString().split(" ", -1)) {
                Mv due = null;
                for (Mv mv : other.movesOf(other.now)) if (written(mv).equals(part)) due = mv;
                if (due == null || other.stateByStands() != 0 || other.done.size() == 300) return -100 - place;
                other.doMove(due);
                place += part.length() + 1;
            }
        }
        now = other.now;
        stands.clear();
        stands.addAll(other.stands);
        done.clear();
        done.addAll(other.done);
        undone.clear();
        return done.size();
    }

    int finding() {
        return finding;
    }

    long digest() {
        long h = 17;
        for (int f = 0; f < n * n; f++) h = 31 * h + (now == null ? 0 : field(f));
        for (int side = 0; side < 2; side++) for (int kind = 1; kind < 8; kind++) h = 31 * h + has(side, kind);
        for (int what = 0; what < 5; what++) h = 31 * h + (now == null ? 0 : play(what));
        return h;
    }
}
