import java.util.ArrayList;
import java.util.List;
import java.util.Map;
import java.util.regex.Matcher;
import java.util.regex.Pattern;

/**
 * A sentence of the document that names a boundary case, with a run of calls that would go otherwise if it were broken.
 * Steps are "name(numbers) = answer", and for short: new(N); board(rows, as Due.board takes them); go(from-to),
 * go(from-to+), go(KIND*to); text(..) is typed into an empty THE TEXT; is(..) asks whether THE TEXT is so.
 *
 * 'They change nothing but as told': behind each refused call an object that had it is compared with one that had not.
 */
final class Edge {
    private static final int MOST_CALLS = 512;
    private static final Map<String, Integer> NAMED = Map.ofEntries(
        Map.entry("NONE", Due.NONE), Map.entry("BAD", Due.BAD), Map.entry("STATE", Due.STATE),
        Map.entry("FULL", Due.FULL), Map.entry("SPENT", Due.SPENT), Map.entry("NULL", Due.NULL),
        Map.entry("INDEX", Due.INDEX), Map.entry("CAST", Due.CAST), Map.entry("STORE", Due.STORE),
        Map.entry("SIZE", Due.SIZE), Map.entry("LEAST", Due.LEAST), Map.entry("MOST", Due.MOST),
        Map.entry("true", 1), Map.entry("false", 0));
    private static final Pattern GOING = Pattern.compile("(\\d+)-(\\d+)(\\+?)");
    private static final Pattern SETTING = Pattern.compile("(\\d)\\*(\\d+)");

    private record Call(String name, int[] given) { }

    private final int promise;
    private final String sentence;
    private final List<Call> made = new ArrayList<>();
    private int n;
    private DropChase x;

    private Edge(int promise, String sentence) {
        this.promise = promise;
        this.sentence = sentence;
    }

    static void of(int promise, String sentence, String... steps) {
        behind(new String[0], promise, sentence, steps);
    }

    /** The same behind steps that many sentences share. */
    static void behind(String[] first, int promise, String sentence, String... steps) {
        Edge edge = new Edge(promise, sentence);
        for (String step : first) edge.take(step);
        for (String step : steps) edge.take(step);
    }

    private void take(String step) {
        int equals = step.lastIndexOf(" = ");
        String call = equals < 0 ? step : step.substring(0, equals);
        String name = call.substring(0, call.indexOf('('));
        String given = call.substring(call.indexOf('(') + 1, call.lastIndexOf(')'));
        if (name.equals("new")) renew(number(given));
        else if (name.equals("board")) tellBoard(given);
        else if (name.equals("text")) typeText(given);
        else if (name.equals("is")) Due.due(promise, told(step), Due.text(replayed(made)).equals(given) ? 1 : 0, 1);
        else if (name.equals("go") && !isNumber(given)) ask(step, "go", new int[] {numberOfMove(given)}, equals);
        else ask(step, name, numbers(given), equals);
    }

    private static boolean isNumber(String s) {
        return NAMED.containsKey(s) || s.matches("-?\\d+");
    }

    private static int number(String s) {
        Integer named = NAMED.get(s);
        return named != null ? named : Integer.parseInt(s);
    }

    private static int[] numbers(String given) {
        if (given.isEmpty()) return new int[0];
        String[] each = given.split(", *");
        int[] all = new int[each.length];
        for (int i = 0; i < all.length; i++) all[i] = number(each[i]);
        return all;
    }

    private String told(String step) {
        return "'" + sentence + "': call " + made.size() + ", " + step + ",";
    }

    private void renew(int size) {
        n = size < 5 || size > 7 ? 5 : size;
        made.clear();
        x = new DropChase(size);
    }

    private long call(String name, int... given) {
        made.add(new Call(name, given));
        if (made.size() > MOST_CALLS) throw new IllegalStateException("more than 512 calls: " + sentence);
        return Pair.ask(x, name, given);
    }

    private void tellBoard(String rows) {
        String[] row = rows.split("/");
        renew(row.length);
        for (int r = 0; r < n; r++) {
            String[] item = row[r].trim().split(" +");
            if (item[0].equals("-")) continue;
            call("line", r, 0, item.length);
            for (int c = 0; c < item.length; c++) {
                if (!item[c].equals(".")) call("put", r, 0, c, number(item[c]));
            }
        }
    }

    private void typeText(String s) {
        call("wipe");
        for (char c : s.toCharArray()) call("type", c);
    }

    /** Asked of another object that has had the same calls, since an object is used for 512 calls alone. */
    private int numberOfMove(String move) {
        Matcher going = GOING.matcher(move);
        DropChase other = replayed(made);
        if (going.matches()) {
            return Due.numberOf(other, number(going.group(1)), number(going.group(2)), !going.group(3).isEmpty());
        }
        Matcher setting = SETTING.matcher(move);
        if (!setting.matches()) throw new IllegalArgumentException(move);
        return Due.numberOfSetting(other, number(setting.group(1)), number(setting.group(2)));
    }

    private void ask(String step, String name, int[] given, int equals) {
        long got = call(name, given);
        if (equals >= 0) {
            String due = step.substring(equals + 3);
            Due.due(promise, told(step), got, NAMED.containsKey(due) ? NAMED.get(due) : Long.parseLong(due));
        }
        boolean changesAsTold = name.equals("hunt") && (got == Due.SPENT || got == Due.FULL);
        if (isRefusal(name, got) && !changesAsTold) changesNothing(step, got);
    }

    private static boolean isRefusal(String name, long got) {
        if (name.equals("digest")) return false;
        if (name.equals("get")) return got == Due.LEAST;
        if (name.equals("letter") || name.equals("node") || name.equals("move")) return got < Due.NONE;
        return got < 0;
    }

    private void changesNothing(String step, long got) {
        int left = MOST_CALLS - made.size();
        if (left == 0) return;
        List<Long> without = new Probe(replayed(made.subList(0, made.size() - 1)), left).answers(n);
        List<Long> with = new Probe(replayed(made), left).answers(n);
        boolean finds = got <= Due.NULL && got >= Due.SIZE;
        if (finds) Due.due(36, told(step) + " finding()", with.get(0), -10 - got);
        if (finds || got == Due.LEAST) with.set(0, without.get(0));
        Due.due(promise, told(step) + " refused, changes nothing", with.equals(without) ? 1 : 0, 1);
    }

    private DropChase replayed(List<Call> calls) {
        DropChase other = new DropChase(n);
        for (Call c : calls) Pair.ask(other, c.name, c.given);
        return other;
    }

    /** All that can be asked of an object, finding() first, as far as its calls last. */
    private static final class Probe {
        private final DropChase x;
        private final List<Long> answers = new ArrayList<>();
        private int left;

        Probe(DropChase x, int left) {
            this.x = x;
            this.left = left;
        }

        private long ask(String name, int... given) {
            if (left <= 0) return Due.LEAST;
            left--;
            long got = Pair.ask(x, name, given);
            answers.add(got);
            return got;
        }

        List<Long> answers(int n) {
            ask("finding");
            ask("digest");
            for (int what = 0; what < 6; what++) ask("play", what);
            ask("moves");
            ask("move", 0, 1);
            ask("spent");
            ask("fuel", 1000);
            askTree();
            for (int k = 0; k < 40 && ask("letter", k) >= 0; k++) continue;
            for (int r = 0; r < n; r++) askLine(r);
            for (int i = 0; i < 3 && ask("forth") >= 0; i++) ask("digest");
            for (int i = 0; i < 5 && ask("back") >= 0; i++) ask("digest");
            ask("clear");
            ask("digest");
            askKinds(n);
            return answers;
        }

        private void askTree() {
            long nodes = ask("tree");
            for (int i = 0; i < nodes && i < 9; i++) {
                for (int what = 0; what < 7; what++) ask("node", i, what);
            }
            ask("verify");
        }

        private void askLine(int r) {
            for (int form = 0; form < 3; form++) {
                for (int i = 0; i <= 12 && ask("get", r, form, i) != Due.LEAST; i++) continue;
                ask("finding");
            }
        }

        /** A man of each KIND in a row, and what they ATTACK. */
        private void askKinds(int n) {
            for (int r = 0; r < n; r++) ask("line", r, 0, n);
            ask("put", 0, 0, 0, 17);
            ask("put", n - 1, 0, n - 1, 1);
            for (int kind = 1; kind < 8; kind++) ask("put", n - 2 + kind / 5, 0, kind % 5 % (n - 1), 1 + kind);
            ask("stand", 0);
            ask("stand", 1);
            for (int f = 0; f < n * n; f++) ask("attacks", 0, f);
        }
    }
}
