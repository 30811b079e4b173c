/** Promise 4: seen of an empty and a full list, and of one with an ancestor in it. */
public final class Boundary04SeenTest {
    public static void main(String[] args) {
        nothingOfAnEmptyList();
        everythingOfAFullList();
        theListStays();
        refusesAnAncestor();
        theListStaysByARefusal();
        zeroOfWhatAllIsDeleted();
        countsAllOfAFullGraph();
        Check.end();
    }

    private static void nothingOfAnEmptyList() {
        WeaveCore x = Check.threeBranches();
        Check.same("seen()", x.seen(), 0);
        x.heads();
        x.insert(5, 0, 'y', 1);
        Check.same("after an insert", x.seen(), 0);
    }

    private static void everythingOfAFullList() {
        WeaveCore x = Check.sixteenAgents();
        for (int i = 0; i < 16; i++) {
            x.parent(17 * i, 0);
            Check.same("of " + i + " and those before", x.seen(), i + 1);
        }
    }

    /** "the list, which stays" */
    private static void theListStays() {
        WeaveCore x = Check.threeBranches();
        x.parent(1, 0);
        x.parent(3, 0);
        Check.same("seen()", x.seen(), 6);
        Check.same("seen() again", x.seen(), 6);
        Check.same("the list", Picture.list(x), "list 1.0 3.0");
    }

    /** "UnsupportedOperationException: one of the list is an ancestor of another one" */
    private static void refusesAnAncestor() {
        int[][] tangles = {{5, 4, 5, 5}, {5, 5, 5, 4}, {5, 0, 5, 5}, {5, 5, 5, 0}, {5, 5, 1, 0}, {1, 0, 5, 5},
            {5, 0, 2, 1}, {5, 1, 3, 0}, {3, 0, 5, 0}, {1, 0, 1, 1}};
        for (int[] t : tangles) {
            WeaveCore x = Check.threeBranches();
            x.parent(t[0], t[1]);
            x.parent(t[2], t[3]);
            Check.fails("seen() of " + t[0] + "." + t[1] + " and " + t[2] + "." + t[3],
                    UnsupportedOperationException.class, () -> x.seen());
        }
        int[][] free = {{5, 5, 3, 0}, {3, 0, 5, 2}, {1, 1, 2, 0}, {1, 0, 3, 0}};
        int[] due = {7, 4, 4, 6};
        for (int i = 0; i < free.length; i++) {
            WeaveCore x = Check.threeBranches();
            x.parent(free[i][0], free[i][1]);
            x.parent(free[i][2], free[i][3]);
            Check.same("seen() of " + free[i][0] + "." + free[i][1] + " and " + free[i][2] + "." + free[i][3],
                    x.seen(), due[i]);
        }
    }

    private static void theListStaysByARefusal() {
        Refused.keepingAll("seen()", UnsupportedOperationException.class, () -> {
            WeaveCore x = Check.threeBranches();
            x.parent(5, 0);
            x.parent(3, 0);
            x.parent(2, 0);
            return x;
        }, x -> x.seen());
    }

    private static void zeroOfWhatAllIsDeleted() {
        WeaveCore x = Check.sixLetters();
        x.parent(5, 5);
        x.delete(1, 0, 6);
        x.parent(1, 5);
        Check.same("of the last to delete", x.seen(), 0);
        x.insert(2, 0, 'x', 1);
        x.parent(1, 4);
        Check.same("of the one before it", x.seen(), 1);
    }

    private static void countsAllOfAFullGraph() {
        WeaveCore x = Check.full();
        x.heads();
        Check.same("seen()", x.seen(), 8192);
    }
}
