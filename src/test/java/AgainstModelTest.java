import java.util.Set;
import java.util.TreeSet;
import java.util.function.LongSupplier;

/**
 * All promises: runs of the 512 calls that an object is made for, right and wrong ones mixed, against
 * the model of the document: many runs of small edits, and some that fill the graph.
 */
public final class AgainstModelTest {
    private static final int SMALL_RUNS = 150;
    private static final int LARGE_RUNS = 6;
    private static final int CALLS = 512;
    private static final int ONLY_QUESTIONS_FROM = 450;
    private static final long ROOM_FOR_DEEP_TREES = 1L << 29;
    private static final Set<String> thrown = new TreeSet<>();
    private static int mostEvents = 0;

    private final Dice dice;
    private final int[] names;
    private final int mostAtOnce;
    private final WeaveCore x = new WeaveCore();
    private final Model model = new Model();
    private final String run;
    private int calls = 0;

    private AgainstModelTest(int seed, int agents, int mostAtOnce) {
        this.dice = new Dice(seed);
        this.mostAtOnce = mostAtOnce;
        this.run = "run " + seed + " of edits of up to " + mostAtOnce + ": ";
        this.names = new int[agents];
        for (int i = 0; i < names.length; i++) {
            names[i] = (seed * 31 + i * 97) % 256;
        }
    }

    public static void main(String[] args) throws InterruptedException {
        Thread runs = new Thread(null, AgainstModelTest::allRuns, "runs", ROOM_FOR_DEEP_TREES);
        runs.start();
        runs.join();
        Check.same("a graph without room for 100 more", mostEvents > 8092 ? 1 : 0, 1);
        Check.same("what was thrown", thrown.toString(), "[IllegalArgumentException, IllegalStateException,"
                + " IndexOutOfBoundsException, NoSuchElementException, UnsupportedOperationException]");
        Check.end();
    }

    private static void allRuns() {
        for (int seed = 1; seed <= SMALL_RUNS; seed++) {
            new AgainstModelTest(seed, seed % 10 == 0 ? 18 : 2 + seed % 6, 3).allCalls();
        }
        for (int seed = 1; seed <= LARGE_RUNS; seed++) {
            new AgainstModelTest(seed, 1 + seed % 4 * 5, 100).allCalls();
        }
    }

    private void allCalls() {
        while (calls < ONLY_QUESTIONS_FROM) {
            someCalls();
        }
        while (calls < CALLS) {
            ask();
        }
        mostEvents = Math.max(mostEvents, model.events(-1));
    }

    private void someCalls() {
        switch (dice.below(fillsTheGraph() ? 6 : 10)) {
            case 0, 1, 2 -> edit(false);
            case 3 -> edit(true);
            case 4 -> listSome();
            case 5 -> callHeads();
            default -> ask();
        }
    }

    private boolean fillsTheGraph() {
        return mostAtOnce == 100;
    }

    private int name() {
        return dice.oneIn(60) ? dice.below(300) - 20 : names[dice.below(names.length)];
    }

    /** Mostly a list from which the agent may go on: the heads, or its latest and some others. */
    private void edit(boolean deletes) {
        int agent = name();
        if (dice.oneIn(4)) {
            callHeads();
        } else if (!dice.oneIn(12)) {
            callParent(agent, lastNumber(agent));
            if (!fillsTheGraph() || dice.oneIn(4)) {
                listSome();
            }
        }
        int n = n();
        int seen = seenOrNone();
        int most = deletes ? seen - n : seen;
        int index = dice.oneIn(20) ? dice.below(60) - 5 : dice.below(Math.max(0, most) + 1);
        if (deletes) {
            compare("delete(" + agent + ", " + index + ", " + n + ")",
                    () -> x.delete(agent, index, n), () -> model.delete(agent, index, n));
        } else {
            int code = code();
            compare("insert(" + agent + ", " + index + ", " + code + ", " + n + ")",
                    () -> x.insert(agent, index, code, n), () -> model.insert(agent, index, code, n));
        }
    }

    private int n() {
        if (dice.oneIn(40)) {
            return dice.below(120) - 5;
        }
        return fillsTheGraph() && !dice.oneIn(4) ? mostAtOnce : 1 + dice.below(mostAtOnce);
    }

    private int code() {
        if (dice.oneIn(50)) {
            return 1114105 + dice.below(12);
        }
        return dice.oneIn(3) ? 8 + dice.below(4) : dice.below(99);
    }

    private int lastNumber(int agent) {
        return agent < 0 || agent > 255 ? 0 : model.events(agent) - 1;
    }

    private void listSome() {
        for (int i = dice.oneIn(30) ? 20 : dice.below(4); i > 0; i--) {
            int agent = name();
            int last = lastNumber(agent);
            callParent(agent, dice.oneIn(3) ? last - dice.below(2 * mostAtOnce) : last);
        }
        compare("seen()", () -> x.seen(), () -> model.seen());
    }

    private void callParent(int agent, int number) {
        compare("parent(" + agent + ", " + number + ")",
                () -> x.parent(agent, number), () -> model.parent(agent, number));
    }

    private void callHeads() {
        compare("heads()", () -> x.heads(), () -> model.heads());
    }

    private void ask() {
        int index = dice.below(model.length() + 3) - 1;
        int n = dice.below(model.events(-1) + 3) - 1;
        int agent = dice.oneIn(10) ? -1 : name();
        int number = dice.below(lastNumber(agent) + 4) - 1;
        int line = dice.below(model.line(-1) + 4) - 2;
        switch (dice.below(9)) {
            case 0 -> compare("length()", () -> x.length(), () -> model.length());
            case 1, 2 -> compare("at(" + index + ")", () -> x.at(index), () -> model.at(index));
            case 3 -> compare("who(" + index + ")", () -> x.who(index), () -> model.who(index));
            case 4 -> compare("spot(" + agent + ", " + number + ")",
                    () -> x.spot(agent, number), () -> model.spot(agent, number));
            case 5 -> compare("was(" + n + ")", () -> x.was(n), () -> model.was(n));
            case 6 -> compare("wasAt(" + n + ", " + index + ")",
                    () -> x.wasAt(n, index), () -> model.wasAt(n, index));
            case 7 -> compare("line(" + line + ")", () -> x.line(line), () -> model.line(line));
            default -> compare("events(" + agent + ")", () -> x.events(agent), () -> model.events(agent));
        }
    }

    private int seenOrNone() {
        try {
            return model.seen();
        } catch (UnsupportedOperationException e) {
            return 0;
        }
    }

    /** What would be the 513th call or a later one is not made: its answer is free. */
    private void compare(String call, LongSupplier program, LongSupplier document) {
        calls++;
        if (calls <= CALLS) {
            Check.same(run + call, told(program), told(document));
        }
    }

    private static String told(LongSupplier call) {
        try {
            return Long.toString(call.getAsLong());
        } catch (RuntimeException e) {
            thrown.add(e.getClass().getSimpleName());
            return "throws." + e.getClass().getSimpleName();
        }
    }
}
