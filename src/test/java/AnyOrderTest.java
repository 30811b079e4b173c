import java.util.ArrayList;
import java.util.List;

/** Promises 5 to 10: the same edits give the same text and order, in whatever order they come. */
public final class AnyOrderTest {
    private record Edit(int agent, int first, int[][] parents, boolean deletes, int index, int code, int n) {
    }

    private static final int[] NAMES = {9, 200, 0, 31, 77};
    /** So few that neither finding them nor looking at all that they made takes more than 512 calls. */
    private static final int EDITS = 40;

    public static void main(String[] args) {
        for (int seed = 1; seed <= 100; seed++) {
            Dice dice = new Dice(seed);
            List<Edit> edits = edits(dice);
            String due = told(write(edits));
            for (int again = 0; again < 4; again++) {
                Check.same("seed " + seed + " in another order", told(write(shuffled(dice, edits))), due);
            }
        }
        Check.end();
    }

    private static List<Edit> edits(Dice dice) {
        WeaveCore x = new WeaveCore();
        List<Edit> edits = new ArrayList<>();
        for (int i = 0; i < EDITS; i++) {
            int agent = NAMES[dice.below(NAMES.length)];
            int[][] parents = parents(x, dice, agent);
            enlist(x, parents);
            int seen = x.seen();
            boolean deletes = seen > 0 && dice.oneIn(3);
            int n = deletes ? 1 + dice.below(Math.min(seen, 4)) : 1 + dice.below(4);
            int index = dice.below(deletes ? seen - n + 1 : seen + 1);
            Edit edit = new Edit(agent, x.events(agent), parents, deletes, index, 'a' + dice.below(20), n);
            edits.add(edit);
            carryOut(x, edit);
        }
        return edits;
    }

    /** The agent's latest event, and now and then one of another's that is not before or behind it. */
    private static int[][] parents(WeaveCore x, Dice dice, int agent) {
        List<int[]> parents = new ArrayList<>();
        int own = x.events(agent);
        if (own > 0) {
            parents.add(new int[] {agent, own - 1});
        }
        int other = NAMES[dice.below(NAMES.length)];
        int others = x.events(other);
        if (other != agent && others > 0) {
            int[] id = {other, dice.below(others)};
            parents.add(id);
            if (isTangled(x, parents)) {
                parents.remove(id);
            }
        }
        return parents.toArray(new int[0][]);
    }

    private static boolean isTangled(WeaveCore x, List<int[]> parents) {
        enlist(x, parents.toArray(new int[0][]));
        try {
            x.seen();
            return false;
        } catch (UnsupportedOperationException e) {
            return true;
        } finally {
            emptyTheList(x);
        }
    }

    /** An edit that is refused leaves an empty list. */
    private static void emptyTheList(WeaveCore x) {
        try {
            x.insert(250, Integer.MAX_VALUE, 0, 1);
        } catch (IndexOutOfBoundsException | UnsupportedOperationException e) {
            return;
        }
    }

    private static void enlist(WeaveCore x, int[][] parents) {
        for (int[] id : parents) {
            x.parent(id[0], id[1]);
        }
    }

    private static void carryOut(WeaveCore x, Edit edit) {
        if (edit.deletes()) {
            x.delete(edit.agent(), edit.index(), edit.n());
        } else {
            x.insert(edit.agent(), edit.index(), edit.code(), edit.n());
        }
    }

    private static WeaveCore write(List<Edit> edits) {
        WeaveCore x = new WeaveCore();
        for (Edit edit : edits) {
            enlist(x, edit.parents());
            carryOut(x, edit);
        }
        return x;
    }

    private static List<Edit> shuffled(Dice dice, List<Edit> edits) {
        List<Edit> waiting = new ArrayList<>(edits);
        List<Edit> done = new ArrayList<>();
        while (!waiting.isEmpty()) {
            List<Edit> ready = new ArrayList<>();
            for (Edit edit : waiting) {
                if (isReady(edit, done)) {
                    ready.add(edit);
                }
            }
            Edit next = ready.get(dice.below(ready.size()));
            waiting.remove(next);
            done.add(next);
        }
        return done;
    }

    private static boolean isReady(Edit edit, List<Edit> done) {
        if (edit.first() > count(edit.agent(), done)) {
            return false;
        }
        for (int[] id : edit.parents()) {
            if (id[1] >= count(id[0], done)) {
                return false;
            }
        }
        return true;
    }

    private static int count(int agent, List<Edit> done) {
        return done.stream().filter(edit -> edit.agent() == agent).mapToInt(Edit::n).sum();
    }

    /** All that does not depend on the order in which the edits came. */
    private static String told(WeaveCore x) {
        StringBuilder all = new StringBuilder("text ").append(Check.text(x));
        all.append(" heads ").append(x.heads()).append(" seen ").append(x.seen()).append(" who");
        int length = x.length();
        for (int i = 0; i < length; i++) {
            all.append(' ').append(x.who(i));
        }
        for (int agent : NAMES) {
            int count = x.events(agent);
            all.append(" spots of ").append(agent);
            for (int number = 0; number < count; number++) {
                all.append(' ').append(spotOrNone(x, agent, number));
            }
        }
        return all.toString();
    }

    private static int spotOrNone(WeaveCore x, int agent, int number) {
        try {
            return x.spot(agent, number);
        } catch (UnsupportedOperationException e) {
            return -1;
        }
    }
}
