import java.util.ArrayList;
import java.util.List;

/** Promises 5 to 10: the same edits give the same text and order, in whatever order they come. */
public final class AnyOrderTest {
    private record Edit(int agent, int first, int[][] parents, boolean deletes, int index, int code, int n) {
    }

    public static void main(String[] args) {
        for (int seed = 1; seed <= 60; seed++) {
            Dice dice = new Dice(seed);
            List<Edit> edits = new ArrayList<>();
            WeaveCore x = write(dice, edits);
            for (int again = 0; again < 4; again++) {
                same("seed " + seed, write(shuffled(dice, edits)), x);
            }
        }
        Check.end();
    }

    private static WeaveCore write(Dice dice, List<Edit> edits) {
        WeaveCore x = new WeaveCore();
        int[] names = {9, 200, 0, 31, 77};
        for (int i = 0; i < 40; i++) {
            int agent = names[dice.below(names.length)];
            int[][] parents = parents(x, dice, agent, names);
            enlist(x, parents);
            int seen = x.seen();
            boolean deletes = seen > 0 && dice.oneIn(3);
            int n = deletes ? 1 + dice.below(Math.min(seen, 4)) : 1 + dice.below(4);
            int index = dice.below(deletes ? seen - n + 1 : seen + 1);
            Edit edit = new Edit(agent, x.events(agent), parents, deletes, index, 'a' + dice.below(20), n);
            edits.add(edit);
            carryOut(x, edit);
        }
        return x;
    }

    /** The agent's latest event, and now and then one of another's that is not before or behind it. */
    private static int[][] parents(WeaveCore x, Dice dice, int agent, int[] names) {
        List<int[]> parents = new ArrayList<>();
        if (x.events(agent) > 0) {
            parents.add(new int[] {agent, x.events(agent) - 1});
        }
        int other = names[dice.below(names.length)];
        if (other != agent && x.events(other) > 0) {
            int[] id = {other, dice.below(x.events(other))};
            parents.add(id);
            if (isTangled(x, parents)) {
                parents.remove(id);
            }
        }
        return parents.toArray(new int[0][]);
    }

    private static boolean isTangled(WeaveCore x, List<int[]> parents) {
        enlist(x, parents.toArray(new int[0][]));
        try {
            x.seen();
            return false;
        } catch (UnsupportedOperationException e) {
            return true;
        } finally {
            emptyTheList(x);
        }
    }

    /** An edit that is refused leaves an empty list. */
    private static void emptyTheList(WeaveCore x) {
        try {
            x.insert(250, Integer.MAX_VALUE, 0, 1);
        } catch (IndexOutOfBoundsException | UnsupportedOperationException e) {
            return;
        }
    }

    private static void enlist(WeaveCore x, int[][] parents) {
        for (int[] id : parents) {
            x.parent(id[0], id[1]);
        }
    }

    private static void carryOut(WeaveCore x, Edit edit) {
        if (edit.deletes()) {
            x.delete(edit.agent(), edit.index(), edit.n());
        } else {
            x.insert(edit.agent(), edit.index(), edit.code(), edit.n());
        }
    }

    private static WeaveCore write(List<Edit> edits) {
        WeaveCore x = new WeaveCore();
        for (Edit edit : edits) {
            enlist(x, edit.parents());
            carryOut(x, edit);
        }
        return x;
    }

    private static List<Edit> shuffled(Dice dice, List<Edit> edits) {
        List<Edit> waiting = new ArrayList<>(edits);
        List<Edit> done = new ArrayList<>();
        while (!waiting.isEmpty()) {
            List<Edit> ready = new ArrayList<>();
            for (Edit edit : waiting) {
                if (isReady(edit, done)) {
                    ready.add(edit);
                }
            }
            Edit next = ready.get(dice.below(ready.size()));
            waiting.remove(next);
            done.add(next);
        }
        return done;
    }

    private static boolean isReady(Edit edit, List<Edit> done) {
        if (edit.first() > count(edit.agent(), done)) {
            return false;
        }
        for (int[] id : edit.parents()) {
            if (id[1] >= count(id[0], done)) {
                return false;
            }
        }
        return true;
    }

    private static int count(int agent, List<Edit> done) {
        return done.stream().filter(edit -> edit.agent() == agent).mapToInt(Edit::n).sum();
    }

    private static void same(String what, WeaveCore got, WeaveCore due) {
        Check.same(what + ": text", Check.text(got), Check.text(due));
        Check.same(what + ": heads", got.heads(), due.heads());
        for (int i = 0; i < due.length(); i++) {
            Check.same(what + ": who(" + i + ")", got.who(i), due.who(i));
        }
        for (int agent = 0; agent < 256; agent++) {
            for (int number = 0; number < due.events(agent); number++) {
                Check.same(what + ": spot(" + agent + ", " + number + ")",
                        spotOrNone(got, agent, number), spotOrNone(due, agent, number));
            }
        }
    }

    private static int spotOrNone(WeaveCore x, int agent, int number) {
        try {
            return x.spot(agent, number);
        } catch (UnsupportedOperationException e) {
            return -1;
        }
    }
}
