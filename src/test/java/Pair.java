import java.util.ArrayList;
import java.util.Arrays;
import java.util.List;

/** The program and the model side by side: every call goes to both, and the answers are compared. */
final class Pair {
    /** What an object answers behind its 512th call is free. */
    static final class Used extends RuntimeException {
        private static final long serialVersionUID = 1;
    }

    private static final int MOST_CALLS = 512;
    static int wrong = 0;
    static long calls = 0;

    final DropChase program;
    final Model model;
    final String name;
    final int n;
    private final List<String> log = new ArrayList<>();
    private boolean told = false;

    Pair(String name, int n) {
        this.name = name;
        program = new DropChase(n);
        model = new Model(n);
        this.n = model.n;
        log.add("new DropChase(" + n + ")");
    }

    int made() {
        return log.size() - 1;
    }

    int call(String call, int... a) {
        return (int) longCall(call, a);
    }

    long longCall(String call, int... a) {
        if (made() == MOST_CALLS) throw new Used();
        calls++;
        log.add(call + Arrays.toString(a));
        long got = ofProgram(call, a);
        long want = ofModel(call, a);
        if (got != want && !told) {
            told = true;
            wrong++;
            System.out.println(name + ": " + String.join(", ", log) + " answered " + got + ", the model says " + want);
        }
        return want;
    }

    private long ofProgram(String call, int[] a) {
        DropChase x = program;
        switch (call) {
            case "kind": return x.kind(a[0], a[1], a[2], a[3], a[4], a[5]);
            case "line": return x.line(a[0], a[1], a[2]);
            case "lose": return x.lose(a[0]);
            case "put": return x.put(a[0], a[1], a[2], a[3]);
            case "get": return x.get(a[0], a[1], a[2]);
            case "copy": return x.copy(a[0], a[1], a[2], a[3], a[4]);
            case "hand": return x.hand(a[0], a[1], a[2]);
            case "stand": return x.stand(a[0]);
            case "clear": return x.clear();
            case "field": return x.field(a[0]);
            case "has": return x.has(a[0], a[1]);
            case "attacks": return x.attacks(a[0], a[1]);
            case "check": return x.check(a[0]);
            case "moves": return x.moves();
            case "move": return x.move(a[0], a[1]);
            case "why": return x.why(a[0], a[1], a[2] == 1);
            case "whySet": return x.whySet(a[0], a[1]);
            case "rows": return x.rows(a[0]);
            case "go": return x.go(a[0]);
            case "back": return x.back();
            case "forth": return x.forth();
            case "play": return x.play(a[0]);
            case "fuel": return x.fuel(a[0]);
            case "hunt": return x.hunt(a[0]);
            case "spent": return x.spent();
            case "tree": return x.tree();
            case "node": return x.node(a[0], a[1]);
            case "forge": return x.forge(a[0], a[1], a[2], a[3] == 1, a[4]);
            case "verify": return x.verify();
            case "write": return x.write();
            case "type": return x.type(a[0]);
            case "wipe": return x.wipe();
            case "letter": return x.letter(a[0]);
            case "read": return x.read();
            case "finding": return x.finding();
            case "digest": return x.digest();
            default: throw new IllegalArgumentException(call);
        }
    }

    private long ofModel(String call, int[] a) {
        Model x = model;
        switch (call) {
            case "kind": return x.kind(a[0], a[1], a[2], a[3], a[4], a[5]);
            case "line": return x.line(a[0], a[1], a[2]);
            case "lose": return x.lose(a[0]);
            case "put": return x.put(a[0], a[1], a[2], a[3]);
            case "get": return x.get(a[0], a[1], a[2]);
            case "copy": return x.copy(a[0], a[1], a[2], a[3], a[4]);
            case "hand": return x.hand(a[0], a[1], a[2]);
            case "stand": return x.stand(a[0]);
            case "clear": return x.clear();
            case "field": return x.field(a[0]);
            case "has": return x.has(a[0], a[1]);
            case "attacks": return x.attacks(a[0], a[1]);
            case "check": return x.check(a[0]);
            case "moves": return x.moves();
            case "move": return x.move(a[0], a[1]);
            case "why": return x.why(a[0], a[1], a[2] == 1);
            case "whySet": return x.whySet(a[0], a[1]);
            case "rows": return x.rows(a[0]);
            case "go": return x.go(a[0]);
            case "back": return x.back();
            case "forth": return x.forth();
            case "play": return x.play(a[0]);
            case "fuel": return x.fuel(a[0]);
            case "hunt": return x.hunt(a[0]);
            case "spent": return x.spent();
            case "tree": return x.tree();
            case "node": return x.node(a[0], a[1]);
            case "forge": return x.forge(a[0], a[1], a[2], a[3] == 1, a[4]);
            case "verify": return x.verify();
            case "write": return x.write();
            case "type": return x.type(a[0]);
            case "wipe": return x.wipe();
            case "letter": return x.letter(a[0]);
            case "read": return x.read();
            case "finding": return x.finding();
            case "digest": return x.digest();
            default: throw new IllegalArgumentException(call);
        }
    }
}
