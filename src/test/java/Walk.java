import java.util.ArrayList;
import java.util.List;

/** Long PLAYS of two KINGS alone on 7 rows, as numbers of MOVES, sought with the model. */
final class Walk {
    private Walk() { }

    /** The steps that tell the BOARD and begin the PLAY. */
    static final String[] BEGINNING = {"board(17 . . . . . ./-/-/-/-/-/. . . . . . 1)", "stand(0) = 2"};

    static Model beginning() {
        Model model = new Model(7);
        model.line(0, 0, 7);
        model.put(0, 0, 0, 17);
        model.line(6, 0, 7);
        model.put(6, 0, 6, 1);
        model.stand(0);
        return model;
    }

    /** So many MOVES, each to a STAND that has not come yet. */
    static List<Integer> alwaysNew(Model model, int many) {
        List<Integer> all = new ArrayList<>();
        for (int i = 0; i < many; i++) {
            int next = firstThatIsNew(model);
            model.go(next);
            all.add(next);
        }
        return all;
    }

    static int firstThatIsNew(Model model) {
        List<Model.Mv> all = model.movesOf(model.now);
        for (int i = 0; i < all.size(); i++) {
            if (isNew(model, model.after(model.now, all.get(i)))) return i;
        }
        return 0;
    }

    private static boolean isNew(Model model, Model.Stand then) {
        for (Model.Stand s : model.stands) if (s.name().equals(then.name())) return false;
        return true;
    }

    /** Twelve MOVES to and fro, the last of which brings the STAND that is there now for the fourth time. */
    static List<Integer> toAndFro(Model model) {
        List<Model.Mv> own = model.movesOf(model.now);
        for (Model.Mv mine : own) {
            for (Model.Mv other : model.movesOf(model.after(model.now, mine))) {
                List<Integer> all = tried(model, mine, other);
                if (all.size() == 12 && model.state() == 2) return all;
                for (int i = 0; i < all.size(); i++) model.back();
            }
        }
        throw new IllegalStateException("no such MOVES");
    }

    private static List<Integer> tried(Model model, Model.Mv mine, Model.Mv other) {
        Model.Mv[] round = {mine, other, new Model.Mv(mine.to(), mine.from(), false, -1),
            new Model.Mv(other.to(), other.from(), false, -1)};
        List<Integer> all = new ArrayList<>();
        for (int i = 0; i < 12; i++) {
            int number = model.movesOf(model.now).indexOf(round[i % 4]);
            if (number < 0 || model.go(number) < 0) return all;
            all.add(number);
        }
        return all;
    }

    /** The MOVES as steps of an Edge; all but the last leave STATE 0. */
    static String[] steps(List<Integer> moves, int last) {
        String[] all = new String[BEGINNING.length + moves.size()];
        System.arraycopy(BEGINNING, 0, all, 0, BEGINNING.length);
        for (int i = 0; i < moves.size(); i++) {
            all[BEGINNING.length + i] = "go(" + moves.get(i) + ") = " + (i + 1 < moves.size() ? 0 : last);
        }
        return all;
    }
}
