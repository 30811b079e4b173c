/** Promise 6: delete at the edges of each argument, of the list and of the graph, and in what order it tests. */
public final class Boundary06DeleteTest {
    public static void main(String[] args) {
        takesOneToAHundred();
        takesTheFirstAndTheLastIndex();
        eachNextHasTheOneBefore();
        answersTheLengthOfTheWholeText();
        leavesAnEmptyList();
        argumentsOutOfRangeKeepTheList();
        argumentsAreTestedFirst();
        anAncestorOnTheListIsRefused();
        aListWithoutTheLatestIsRefused();
        theListIsTestedBeforeTheIndex();
        lessThanNAreRefused();
        theIndexIsTestedBeforeTheRoom();
        tooManyEventsAreRefused();
        tooManyAgentsAreRefused();
        Check.end();
    }

    /** "n (1 .. 100) events, each of which deletes at this index" */
    private static void takesOneToAHundred() {
        WeaveCore x = new WeaveCore();
        x.insert(5, 0, 0, 100);
        x.heads();
        x.insert(5, 100, 200, 2);
        x.heads();
        Check.same("n 1", x.delete(5, 0, 1), 101);
        x.heads();
        Check.same("n 100", x.delete(5, 0, 100), 1);
        Check.same("what is left", x.at(0), 201);
        Check.same("how many came", x.events(5), 203);
    }

    private static void takesTheFirstAndTheLastIndex() {
        WeaveCore x = Check.sixLetters();
        x.heads();
        Check.same("the last", x.delete(5, 5, 1), 5);
        x.heads();
        Check.same("the first", x.delete(5, 0, 1), 4);
        Check.same("text", Check.text(x), "bcde");
        x.heads();
        Check.same("up to the end", x.delete(5, 2, 2), 2);
        x.heads();
        Check.same("all", x.delete(5, 0, 2), 0);
        Check.same("text", Check.text(x), "");
    }

    /** "Likewise .. n events": each with the one before as its parent */
    private static void eachNextHasTheOneBefore() {
        for (int number = 0; number < 3; number++) {
            WeaveCore x = Check.sixLetters();
            x.parent(5, 5);
            x.delete(9, 2, 3);
            x.parent(9, number);
            Check.same("what " + number + " and those before leave", x.seen(), 5 - number);
        }
        WeaveCore x = Check.sixLetters();
        x.parent(5, 5);
        x.delete(9, 2, 3);
        Check.same("text", Check.text(x), "abf");
        x.parent(9, 2);
        x.parent(9, 1);
        Check.fails("one is an ancestor of the next", UnsupportedOperationException.class, () -> x.seen());
    }

    /** "the length of the text is answered", which is not what the author sees of it */
    private static void answersTheLengthOfTheWholeText() {
        WeaveCore x = Check.threeBranches();
        x.parent(5, 5);
        Check.same("what others had deleted", x.delete(9, 0, 3), 4);
        x.parent(5, 5);
        Check.same("one that was there yet", x.delete(0, 2, 2), 3);
        x.parent(5, 0);
        Check.same("of one who saw one letter", x.delete(255, 0, 1), 3);
    }

    private static void leavesAnEmptyList() {
        WeaveCore x = Check.threeBranches();
        x.heads();
        x.delete(9, 0, 1);
        Check.same("the list", Picture.list(x), "list");
    }

    /** "(index below 0 is an IllegalArgumentException, too", "agent or n out of range", "the list stays by this" */
    private static void argumentsOutOfRangeKeepTheList() {
        int least = Integer.MIN_VALUE;
        int most = Integer.MAX_VALUE;
        int[][] wrong = {{-1, 0, 1}, {256, 0, 1}, {least, 0, 1}, {most, 0, 1}, {9, 0, 0}, {9, 0, -1}, {9, 0, 101},
            {9, 0, least}, {9, 0, most}, {9, -1, 1}, {9, least, 1}, {9, -1, 4}, {9, -1, 100}, {-1, -1, 0},
            {9, most, 0}, {9, most, most}, {9, least, least}};
        for (int[] w : wrong) {
            Refused.keepingAll("delete(" + w[0] + ", " + w[1] + ", " + w[2] + ")", IllegalArgumentException.class,
                    Boundary06DeleteTest::withHeadsListed, x -> x.delete(w[0], w[1], w[2]));
        }
    }

    private static void argumentsAreTestedFirst() {
        Refused.keepingAll("n, and a tangled list", IllegalArgumentException.class, () -> {
            WeaveCore x = Check.threeBranches();
            x.parent(5, 0);
            x.parent(5, 1);
            return x;
        }, x -> x.delete(9, 0, 0));
        Refused.keepingAll("index, and a list without the latest", IllegalArgumentException.class,
                Check::threeBranches, x -> x.delete(5, -1, 1));
        Refused.keepingAll("agent, and less than n", IllegalArgumentException.class,
                Boundary06DeleteTest::withHeadsListed, x -> x.delete(256, 0, 5));
        WeaveCore full = Check.full();
        full.heads();
        Check.fails("n, and no room", IllegalArgumentException.class, () -> full.delete(0, 0, 101));
        Check.same("the list stays", full.seen(), 8192);
    }

    /** "Likewise": "one of the list is an ancestor of another one" */
    private static void anAncestorOnTheListIsRefused() {
        int[][] tangles = {{5, 4, 5, 5}, {5, 5, 5, 0}, {5, 5, 1, 0}, {3, 0, 5, 1}, {5, 0, 2, 1}};
        for (int[] t : tangles) {
            Refused.emptyingTheList(t[0] + "." + t[1] + " and " + t[2] + "." + t[3],
                    UnsupportedOperationException.class, Check::threeBranches, x -> {
                        x.parent(t[0], t[1]);
                        x.parent(t[2], t[3]);
                    }, x -> x.delete(9, 0, 1));
        }
    }

    /** "Likewise": "the agent has events, and its latest is not on the list, and no ancestor of one that is" */
    private static void aListWithoutTheLatestIsRefused() {
        Refused.emptyingTheList("an empty list", UnsupportedOperationException.class,
                Check::threeBranches, x -> { }, x -> x.delete(3, 0, 1));
        Refused.emptyingTheList("the one before its latest", UnsupportedOperationException.class,
                Check::threeBranches, x -> x.parent(5, 4), x -> x.delete(5, 0, 1));
        Refused.emptyingTheList("another who saw only earlier ones", UnsupportedOperationException.class,
                Check::threeBranches, x -> x.parent(3, 0), x -> x.delete(5, 0, 1));
        WeaveCore x = Check.threeBranches();
        x.parent(5, 5);
        Check.same("its latest itself", x.delete(5, 5, 1), 3);
        x.parent(5, 6);
        Check.same("its latest, that deletes", x.delete(5, 4, 1), 2);
        WeaveCore y = Check.threeBranches();
        y.parent(2, 1);
        Check.same("another who saw its latest", y.delete(5, 3, 1), 3);
    }

    private static void theListIsTestedBeforeTheIndex() {
        Refused.emptyingTheList("a tangled list, and less than n", UnsupportedOperationException.class,
                Check::threeBranches, x -> {
                    x.parent(5, 0);
                    x.parent(5, 1);
                }, x -> x.delete(9, Integer.MAX_VALUE, 100));
        Refused.emptyingTheList("no latest, and less than n", UnsupportedOperationException.class,
                Check::threeBranches, x -> x.parent(5, 0), x -> x.delete(5, 0, 2));
        WeaveCore full = Check.full();
        Check.fails("no latest, and no room", UnsupportedOperationException.class, () -> full.delete(0, 0, 1));
    }

    /** "IndexOutOfBoundsException: less than n nodes are seen from index on" */
    private static void lessThanNAreRefused() {
        int most = Integer.MAX_VALUE;
        int[][] wrong = {{0, 5}, {0, 100}, {1, 4}, {3, 2}, {4, 1}, {5, 1}, {4, 100}, {most, 1}, {most, 100},
            {most - 99, 100}, {most - 4, 5}};
        for (int[] w : wrong) {
            Refused.emptyingTheList(w[1] + " from " + w[0] + " on, of 4", IndexOutOfBoundsException.class,
                    Check::threeBranches, WeaveCore::heads, x -> x.delete(9, w[0], w[1]));
        }
        Refused.emptyingTheList("one of none", IndexOutOfBoundsException.class,
                Check::threeBranches, x -> { }, x -> x.delete(9, 0, 1));
        int[][] right = {{0, 4}, {1, 3}, {3, 1}};
        for (int[] r : right) {
            WeaveCore x = Check.threeBranches();
            x.heads();
            Check.same(r[1] + " from " + r[0] + " on, of 4", x.delete(9, r[0], r[1]), 4 - r[1]);
        }
    }

    private static void theIndexIsTestedBeforeTheRoom() {
        WeaveCore full = Check.full();
        full.heads();
        Check.fails("no room for events", IndexOutOfBoundsException.class, () -> full.delete(0, 8192, 1));
        Check.same("the list is empty", full.seen(), 0);
        WeaveCore agents = Check.sixteenAgents();
        agents.heads();
        Check.fails("no room for agents", IndexOutOfBoundsException.class, () -> agents.delete(1, 16, 1));
        Check.same("the list is empty", agents.seen(), 0);
    }

    /** "Likewise": "the graph would have too many events" */
    private static void tooManyEventsAreRefused() {
        for (int n : new int[] {3, 100}) {
            WeaveCore x = Check.allButTwo();
            x.heads();
            Check.fails("two places, n " + n, IllegalStateException.class, () -> x.delete(1, 0, n));
            Check.same("the list is empty", x.seen(), 0);
            Check.same("none came", x.events(-1), 8190);
            Check.same("the text stays", x.length(), 8190);
            x.heads();
            Check.same("two places, n 2", x.delete(1, 0, 2), 8188);
            Check.same("the text then", x.at(0), 'c');
            x.heads();
            Check.fails("no place, n 1", IllegalStateException.class, () -> x.delete(1, 0, 1));
        }
    }

    /** "or agents" */
    private static void tooManyAgentsAreRefused() {
        WeaveCore x = Check.sixteenAgents();
        x.heads();
        Check.fails("a seventeenth", IllegalStateException.class, () -> x.delete(1, 0, 1));
        Check.same("the list is empty", x.seen(), 0);
        Check.same("it did not come", x.events(1), 0);
        Check.same("the text stays", x.length(), 16);
        x.heads();
        Check.same("one of the sixteen", x.delete(255, 15, 1), 15);
        WeaveCore y = new WeaveCore();
        y.insert(0, 0, 'a', 20);
        for (int name = 1; name < 16; name++) {
            y.parent(0, 19);
            Check.same("agent " + name + " comes by a delete", y.delete(name, name, 1), 20 - name);
        }
        y.parent(0, 19);
        Check.fails("one more by a delete", IllegalStateException.class, () -> y.delete(16, 0, 1));
    }

    private static WeaveCore withHeadsListed() {
        WeaveCore x = Check.threeBranches();
        x.heads();
        return x;
    }
}
