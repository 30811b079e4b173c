/** Promise 14: events of the first and the last agent, of all, and of what is no agent. */
public final class Boundary14EventsTest {
    public static void main(String[] args) {
        ofTheFirstAndTheLastAgent();
        ofAllForMinusOne();
        noneOfAnAgentThatHasNone();
        agentOutOfRange();
        refusedCallsDoNotCount();
        ofAFullGraph();
        aRefusalChangesNothing();
        Check.end();
    }

    private static void ofTheFirstAndTheLastAgent() {
        WeaveCore x = new WeaveCore();
        x.insert(0, 0, 'a', 2);
        x.insert(255, 0, 'b', 3);
        Check.same("events(0)", x.events(0), 2);
        Check.same("events(255)", x.events(255), 3);
    }

    /** "all for -1" */
    private static void ofAllForMinusOne() {
        WeaveCore x = new WeaveCore();
        Check.same("of none", x.events(-1), 0);
        x.insert(0, 0, 'a', 100);
        x.heads();
        x.delete(255, 0, 100);
        Check.same("those that insert and those that delete", x.events(-1), 200);
    }

    private static void noneOfAnAgentThatHasNone() {
        WeaveCore x = Check.threeBranches();
        for (int agent : new int[] {0, 4, 6, 254, 255}) {
            Check.same("events(" + agent + ")", x.events(agent), 0);
        }
    }

    /** "IllegalArgumentException: agent out of range" */
    private static void agentOutOfRange() {
        WeaveCore x = Check.threeBranches();
        for (int agent : new int[] {-2, -3, 256, 257, 261, -251, Integer.MAX_VALUE, Integer.MIN_VALUE}) {
            Check.fails("events(" + agent + ")", IllegalArgumentException.class, () -> x.events(agent));
        }
    }

    private static void refusedCallsDoNotCount() {
        WeaveCore x = Check.sixLetters();
        Check.fails("insert", IndexOutOfBoundsException.class, () -> x.insert(9, 7, 'x', 1));
        Check.fails("delete", UnsupportedOperationException.class, () -> x.delete(5, 0, 1));
        Check.same("events(9)", x.events(9), 0);
        Check.same("events(5)", x.events(5), 6);
        Check.same("events(-1)", x.events(-1), 6);
    }

    private static void ofAFullGraph() {
        WeaveCore x = Check.full();
        Check.same("events(-1)", x.events(-1), 8192);
        Check.same("of its agents", x.events(0) + x.events(1) + x.events(2), 8192);
    }

    private static void aRefusalChangesNothing() {
        Refused.keepingAll("events(256)", IllegalArgumentException.class, () -> {
            WeaveCore x = Check.threeBranches();
            x.parent(5, 3);
            return x;
        }, x -> x.events(256));
    }
}
