/** Promise 5: insert at the edges of each argument, of the list and of the graph, and in what order it tests. */
public final class Boundary05InsertTest {
    public static void main(String[] args) {
        takesOneToAHundred();
        takesEveryCodeUpToTheLast();
        goesOnFromAnEmptyAndAFullList();
        eachNextHasTheOneBefore();
        answersTheLengthOfTheWholeText();
        leavesAnEmptyList();
        argumentsOutOfRangeKeepTheList();
        argumentsAreTestedFirst();
        anAncestorOnTheListIsRefused();
        aListWithoutTheLatestIsRefused();
        aListThatHasTheLatestIsTaken();
        theListIsTestedBeforeTheIndex();
        anIndexAboveTheSeenIsRefused();
        theIndexIsTestedBeforeTheRoom();
        tooManyEventsAreRefused();
        tooManyAgentsAreRefused();
        Check.end();
    }

    /** "n (1 .. 100) events of an agent come" */
    private static void takesOneToAHundred() {
        WeaveCore x = new WeaveCore();
        Check.same("n 1", x.insert(5, 0, 'a', 1), 1);
        x.heads();
        Check.same("n 100", x.insert(5, 1, 'b', 100), 101);
        Check.same("the first of them", x.at(1), 'b');
        Check.same("the last of them", x.at(100), 'b' + 99);
        Check.same("its number", x.who(100), (5L << 32) + 100);
        Check.same("how many came", x.events(5), 101);
    }

    /** "they insert code, code + 1, .." up to the last code that can be */
    private static void takesEveryCodeUpToTheLast() {
        WeaveCore x = new WeaveCore();
        Check.same("0 .. 99", x.insert(5, 0, 0, 100), 100);
        x.heads();
        Check.same("1114012 .. 1114111", x.insert(5, 100, 1114012, 100), 200);
        x.heads();
        Check.same("1114111", x.insert(5, 200, 1114111, 1), 201);
        Check.same("at(0)", x.at(0), 0);
        Check.same("at(199)", x.at(199), 1114111);
        Check.same("at(200)", x.at(200), 1114111);
    }

    /** "the first with those of the list as its parents" */
    private static void goesOnFromAnEmptyAndAFullList() {
        WeaveCore x = Check.sixLetters();
        Check.same("of none", x.insert(9, 0, 'z', 1), 7);
        x.parent(9, 0);
        Check.same("it has no ancestor", x.seen(), 1);
        WeaveCore y = Check.sixteenAgents();
        for (int i = 15; i >= 0; i--) {
            y.parent(17 * i, 0);
        }
        Check.same("of sixteen", y.insert(34, 16, 'z', 1), 17);
        y.parent(34, 1);
        Check.same("it has all as ancestors", y.seen(), 17);
        Check.same("the only head", y.heads(), 1);
    }

    /** "each next one with the one before", "at index, index + 1, .." */
    private static void eachNextHasTheOneBefore() {
        WeaveCore x = Check.sixLetters();
        x.parent(5, 3);
        x.insert(9, 2, 'x', 3);
        Check.same("in a row", Check.text(x), "abxyzcdef");
        for (int number = 0; number < 3; number++) {
            WeaveCore y = Check.sixLetters();
            y.parent(5, 3);
            y.insert(9, 2, 'x', 3);
            y.parent(9, number);
            Check.same("what " + number + " and those before see", y.seen(), 4 + number + 1);
        }
        x.parent(9, 0);
        x.parent(9, 1);
        Check.fails("the first is an ancestor of the next", UnsupportedOperationException.class, () -> x.seen());
    }

    /** "answers the length of the text", which is not what the author sees of it */
    private static void answersTheLengthOfTheWholeText() {
        WeaveCore x = Check.threeBranches();
        Check.same("of one who saw nothing", x.insert(0, 0, 'y', 1), 5);
        x.parent(5, 5);
        Check.same("of one who saw the deleted", x.insert(9, 6, 'z', 2), 7);
    }

    /** "In all that follows the list is empty then" */
    private static void leavesAnEmptyList() {
        WeaveCore x = Check.threeBranches();
        x.heads();
        x.insert(9, 0, 'y', 1);
        Check.same("the list", Picture.list(x), "list");
    }

    /** "IllegalArgumentException: agent or n out of range; code or code + n - 1 is no code; index is below 0" */
    private static void argumentsOutOfRangeKeepTheList() {
        int least = Integer.MIN_VALUE;
        int most = Integer.MAX_VALUE;
        int[][] wrong = {{-1, 0, 65, 1}, {256, 0, 65, 1}, {least, 0, 65, 1}, {most, 0, 65, 1},
            {9, 0, 65, 0}, {9, 0, 65, -1}, {9, 0, 65, 101}, {9, 0, 65, least}, {9, 0, 65, most},
            {9, 0, -1, 1}, {9, 0, -1, 2}, {9, 0, least, 1}, {9, 0, 1114112, 1}, {9, 0, most, 1},
            {9, 0, 1114111, 2}, {9, 0, 1114013, 100}, {9, 0, 1114110, 3}, {9, 0, most, 2}, {9, 0, most, 100},
            {9, 0, -50, 100}, {9, 0, least, 100}, {9, 0, most - 98, 100},
            {9, -1, 65, 1}, {9, least, 65, 1}, {9, -1, 65, 100}, {-1, -1, -1, 0}, {9, 0, 1114111, least},
            {9, 0, 2, least}, {9, 0, 0, 0}, {9, 0, least, least}, {9, 0, most, most}};
        for (int[] w : wrong) {
            String call = "insert(" + w[0] + ", " + w[1] + ", " + w[2] + ", " + w[3] + ")";
            Refused.keepingAll(call, IllegalArgumentException.class,
                    Boundary05InsertTest::withHeadsListed, x -> x.insert(w[0], w[1], w[2], w[3]));
        }
    }

    /** "(the list stays by this)", whatever else is wrong */
    private static void argumentsAreTestedFirst() {
        Refused.keepingAll("n, and a tangled list", IllegalArgumentException.class,
                Boundary05InsertTest::withATangle, x -> x.insert(9, 0, 65, 0));
        Refused.keepingAll("code, and a list without the latest", IllegalArgumentException.class,
                Check::threeBranches, x -> x.insert(5, 0, -1, 1));
        Refused.keepingAll("agent, and an index above", IllegalArgumentException.class,
                Boundary05InsertTest::withHeadsListed, x -> x.insert(256, 5, 65, 1));
        WeaveCore full = Check.full();
        full.heads();
        Check.fails("index, and no room", IllegalArgumentException.class, () -> full.insert(0, -1, 65, 1));
        Check.same("the list stays", full.seen(), 8192);
        WeaveCore agents = Check.sixteenAgents();
        agents.heads();
        Check.fails("n, and no room", IllegalArgumentException.class, () -> agents.insert(1, 0, 65, 101));
        Check.same("the list stays", agents.seen(), 16);
    }

    /** "UnsupportedOperationException: one of the list is an ancestor of another one" */
    private static void anAncestorOnTheListIsRefused() {
        int[][] tangles = {{5, 4, 5, 5}, {5, 5, 5, 0}, {5, 5, 1, 0}, {3, 0, 5, 1}, {5, 0, 2, 1}};
        for (int[] t : tangles) {
            Refused.emptyingTheList(t[0] + "." + t[1] + " and " + t[2] + "." + t[3],
                    UnsupportedOperationException.class, Check::threeBranches, x -> {
                        x.parent(t[0], t[1]);
                        x.parent(t[2], t[3]);
                    }, x -> x.insert(9, 0, 65, 1));
        }
        Refused.emptyingTheList("an ancestor, with the agent's latest", UnsupportedOperationException.class,
                Check::threeBranches, x -> {
                    x.heads();
                    x.parent(5, 5);
                }, x -> x.insert(5, 0, 65, 1));
    }

    /** "or the agent has events, and its latest is not on the list, and no ancestor of one that is" */
    private static void aListWithoutTheLatestIsRefused() {
        Refused.emptyingTheList("an empty list", UnsupportedOperationException.class,
                Check::threeBranches, x -> { }, x -> x.insert(3, 0, 65, 1));
        Refused.emptyingTheList("the one before its latest", UnsupportedOperationException.class,
                Check::threeBranches, x -> x.parent(5, 4), x -> x.insert(5, 0, 65, 1));
        Refused.emptyingTheList("another who saw only earlier ones", UnsupportedOperationException.class,
                Check::threeBranches, x -> x.parent(3, 0), x -> x.insert(5, 0, 65, 1));
        Refused.emptyingTheList("others who saw none of it", UnsupportedOperationException.class,
                Check::threeBranches, x -> {
                    x.parent(1, 1);
                    x.parent(2, 1);
                }, x -> x.insert(3, 0, 65, 1));
        Refused.emptyingTheList("one that deletes, before its latest", UnsupportedOperationException.class,
                Check::threeBranches, x -> x.parent(1, 0), x -> x.insert(1, 0, 65, 1));
    }

    private static void aListThatHasTheLatestIsTaken() {
        WeaveCore x = Check.threeBranches();
        x.parent(5, 5);
        Check.same("its latest itself", x.insert(5, 6, 'g', 1), 5);
        WeaveCore y = Check.threeBranches();
        y.parent(2, 0);
        Check.same("another who saw its latest", y.insert(5, 5, 'g', 1), 5);
        WeaveCore z = Check.threeBranches();
        z.parent(3, 0);
        z.parent(5, 5);
        Check.same("its latest and another", z.insert(5, 7, 'g', 1), 5);
        WeaveCore fresh = Check.threeBranches();
        fresh.parent(5, 0);
        Check.same("one without events needs none", fresh.insert(9, 1, 'g', 1), 5);
    }

    private static void theListIsTestedBeforeTheIndex() {
        Refused.emptyingTheList("a tangled list, and an index above", UnsupportedOperationException.class,
                Check::threeBranches, x -> {
                    x.parent(5, 0);
                    x.parent(5, 1);
                }, x -> x.insert(9, Integer.MAX_VALUE, 65, 1));
        Refused.emptyingTheList("no latest, and an index above", UnsupportedOperationException.class,
                Check::threeBranches, x -> x.parent(5, 0), x -> x.insert(5, 2, 65, 1));
        WeaveCore full = Check.full();
        Check.fails("no latest, and no room", UnsupportedOperationException.class, () -> full.insert(0, 0, 65, 1));
        WeaveCore agents = Check.sixteenAgents();
        agents.parent(0, 0);
        agents.insert(0, 0, 'x', 1);
        agents.parent(0, 0);
        agents.parent(0, 1);
        Check.fails("a tangle, and no room", UnsupportedOperationException.class, () -> agents.insert(1, 0, 65, 1));
        Check.same("the list is empty", agents.seen(), 0);
    }

    /** "IndexOutOfBoundsException: index is above the number of nodes seen" */
    private static void anIndexAboveTheSeenIsRefused() {
        int[] above = {5, 6, 100, Integer.MAX_VALUE - 99, Integer.MAX_VALUE};
        for (int index : above) {
            for (int n = 1; n <= 100; n += 99) {
                int many = n;
                Refused.emptyingTheList("index " + index + " of 4, n " + n, IndexOutOfBoundsException.class,
                        Check::threeBranches, WeaveCore::heads, x -> x.insert(9, index, 65, many));
            }
        }
        Refused.emptyingTheList("index 1 of none", IndexOutOfBoundsException.class,
                Check::threeBranches, x -> { }, x -> x.insert(9, 1, 65, 1));
        WeaveCore x = Check.threeBranches();
        x.heads();
        Check.same("index 4 of 4", x.insert(9, 4, 'g', 1), 5);
        Check.same("it is the last", x.at(4), 'g');
        WeaveCore y = Check.threeBranches();
        y.parent(5, 5);
        Check.same("more may be seen than the text has", y.insert(9, 6, 'g', 1), 5);
    }

    private static void theIndexIsTestedBeforeTheRoom() {
        WeaveCore full = Check.full();
        full.heads();
        Check.fails("no room for events", IndexOutOfBoundsException.class, () -> full.insert(0, 8193, 65, 1));
        Check.same("the list is empty", full.seen(), 0);
        WeaveCore agents = Check.sixteenAgents();
        agents.heads();
        Check.fails("no room for agents", IndexOutOfBoundsException.class, () -> agents.insert(1, 17, 65, 1));
        Check.same("the list is empty", agents.seen(), 0);
    }

    /** "IllegalStateException: the graph would have too many events" */
    private static void tooManyEventsAreRefused() {
        for (int n : new int[] {3, 50, 100}) {
            WeaveCore x = Check.allButTwo();
            x.heads();
            Check.fails("two places, n " + n, IllegalStateException.class, () -> x.insert(1, 8190, 65, n));
            Check.same("the list is empty", x.seen(), 0);
            Check.same("none came", x.events(-1), 8190);
            Check.same("the text stays", x.length(), 8190);
            x.heads();
            Check.same("two places, n 2", x.insert(1, 8190, 65, 2), 8192);
        }
        WeaveCore x = Check.full();
        x.heads();
        Check.fails("no place, n 1", IllegalStateException.class, () -> x.insert(2, 0, 65, 1));
        Check.fails("no place for a new agent", IllegalStateException.class, () -> x.insert(9, 0, 65, 1));
        Check.same("it did not come", x.events(9), 0);
        Check.same("the text stays", x.length(), 8192);
    }

    /** "or agents" */
    private static void tooManyAgentsAreRefused() {
        WeaveCore x = Check.sixteenAgents();
        for (int name : new int[] {1, 16, 254}) {
            x.heads();
            Check.fails("agent " + name, IllegalStateException.class, () -> x.insert(name, 0, 65, 1));
            Check.same("the list is empty", x.seen(), 0);
            Check.same("it did not come", x.events(name), 0);
        }
        Check.same("the text stays", Check.text(x), "abcdefghijklmnop");
        x.heads();
        Check.same("the first agent goes on", x.insert(0, 16, 'q', 1), 17);
        x.heads();
        Check.same("the sixteenth goes on", x.insert(255, 17, 'r', 1), 18);
    }

    private static WeaveCore withHeadsListed() {
        WeaveCore x = Check.threeBranches();
        x.heads();
        return x;
    }

    private static WeaveCore withATangle() {
        WeaveCore x = Check.threeBranches();
        x.parent(5, 0);
        x.parent(5, 1);
        return x;
    }
}
