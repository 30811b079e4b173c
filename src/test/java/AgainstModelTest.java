import java.util.function.LongSupplier;

/** All promises: long runs of calls, right and wrong ones mixed, against the model of the document. */
public final class AgainstModelTest {
    private static final int RUNS = 150;
    private static final int CALLS = 160;

    private final Dice dice;
    private final int[] names;
    private final WeaveCore x = new WeaveCore();
    private final Model model = new Model();
    private final String run;

    private AgainstModelTest(int seed) {
        dice = new Dice(seed);
        run = "run " + seed + ": ";
        names = new int[seed % 10 == 0 ? 18 : 2 + seed % 6];
        for (int i = 0; i < names.length; i++) {
            names[i] = (seed * 31 + i * 97) % 256;
        }
    }

    public static void main(String[] args) {
        for (int seed = 1; seed <= RUNS; seed++) {
            AgainstModelTest test = new AgainstModelTest(seed);
            for (int i = 0; i < CALLS; i++) {
                test.oneCall(i);
            }
            test.wholeState();
        }
        Check.end();
    }

    private void oneCall(int i) {
        switch (dice.below(10)) {
            case 0, 1, 2 -> edit(false);
            case 3 -> edit(true);
            case 4 -> listSome();
            case 5 -> callHeads();
            default -> ask(i);
        }
    }

    private int name() {
        return dice.oneIn(60) ? dice.below(300) - 20 : names[dice.below(names.length)];
    }

    /** Mostly a list from which the agent may go on: the heads, or its latest and some others. */
    private void edit(boolean deletes) {
        int agent = name();
        if (dice.oneIn(4)) {
            callHeads();
        } else if (!dice.oneIn(12)) {
            callParent(agent, lastNumber(agent));
            listSome();
        }
        int seen = (int) answer(() -> model.seen());
        int n = dice.oneIn(40) ? dice.below(120) - 5 : 1 + dice.below(3);
        int most = deletes ? seen - n : seen;
        int index = dice.oneIn(20) ? dice.below(60) - 5 : dice.below(Math.max(0, most) + 1);
        if (deletes) {
            compare("delete(" + agent + ", " + index + ", " + n + ")",
                    () -> x.delete(agent, index, n), () -> model.delete(agent, index, n));
        } else {
            int code = dice.oneIn(50) ? 1114105 + dice.below(12) : dice.oneIn(3) ? 8 + dice.below(4) : dice.below(99);
            compare("insert(" + agent + ", " + index + ", " + code + ", " + n + ")",
                    () -> x.insert(agent, index, code, n), () -> model.insert(agent, index, code, n));
        }
    }

    private int lastNumber(int agent) {
        return agent < 0 || agent > 255 ? 0 : model.events(agent) - 1;
    }

    private void listSome() {
        for (int i = dice.below(4); i > 0; i--) {
            int agent = name();
            int last = lastNumber(agent);
            callParent(agent, dice.oneIn(3) ? last - dice.below(5) : last);
        }
        compare("seen()", () -> x.seen(), () -> model.seen());
    }

    private void callParent(int agent, int number) {
        compare("parent(" + agent + ", " + number + ")",
                () -> x.parent(agent, number), () -> model.parent(agent, number));
    }

    private void callHeads() {
        compare("heads()", () -> x.heads(), () -> model.heads());
    }

    private void ask(int i) {
        int index = dice.below(model.length() + 3) - 1;
        int n = dice.below(model.events(-1) + 3) - 1;
        int agent = dice.oneIn(10) ? -1 : name();
        int number = dice.below(20) - 1;
        switch (i % 8) {
            case 0 -> compare("length()", () -> x.length(), () -> model.length());
            case 1 -> compare("at(" + index + ")", () -> x.at(index), () -> model.at(index));
            case 2 -> compare("who(" + index + ")", () -> x.who(index), () -> model.who(index));
            case 3 -> compare("spot(" + agent + ", " + number + ")",
                    () -> x.spot(agent, number), () -> model.spot(agent, number));
            case 4 -> compare("was(" + n + ")", () -> x.was(n), () -> model.was(n));
            case 5 -> compare("wasAt(" + n + ", " + index + ")",
                    () -> x.wasAt(n, index), () -> model.wasAt(n, index));
            case 6 -> compare("line(" + (number - 2) + ")", () -> x.line(number - 2), () -> model.line(number - 2));
            default -> compare("events(" + agent + ")", () -> x.events(agent), () -> model.events(agent));
        }
    }

    private void wholeState() {
        int length = model.length();
        Check.same(run + "length()", x.length(), length);
        for (int i = 0; i < length; i++) {
            Check.same(run + "at(" + i + ") at the end", x.at(i), model.at(i));
            Check.same(run + "who(" + i + ") at the end", x.who(i), model.who(i));
        }
        for (int n = 0; n <= model.events(-1); n++) {
            Check.same(run + "was(" + n + ") at the end", x.was(n), model.was(n));
        }
        for (int agent = 0; agent < 256; agent++) {
            for (int number = 0; number < model.events(agent); number++) {
                int a = agent;
                int b = number;
                compare("spot(" + a + ", " + b + ") at the end", () -> x.spot(a, b), () -> model.spot(a, b));
            }
        }
    }

    private void compare(String call, LongSupplier program, LongSupplier document) {
        Check.same(run + call, told(program), told(document));
    }

    private static String told(LongSupplier call) {
        try {
            return Long.toString(call.getAsLong());
        } catch (IndexOutOfBoundsException e) {
            return "throws.IndexOutOfBoundsException";
        } catch (RuntimeException e) {
            return "throws." + e.getClass().getSimpleName();
        }
    }

    private static long answer(LongSupplier call) {
        try {
            return call.getAsLong();
        } catch (RuntimeException e) {
            return 0;
        }
    }
}
