import java.util.NoSuchElementException;

/** Promise 10: the first and the last spot, deleted nodes, and what is no node. */
public final class Boundary10SpotTest {
    public static void main(String[] args) {
        theFirstAndTheLast();
        deletedOnesCountAndHaveOne();
        noSuchEvent();
        oneThatDeletes();
        theLastOfTheLongestText();
        aRefusalChangesNothing();
        Check.end();
    }

    private static void theFirstAndTheLast() {
        WeaveCore x = new WeaveCore();
        x.insert(5, 0, 'b', 1);
        Check.same("the only one", x.spot(5, 0), 0);
        x.insert(255, 0, 'c', 1);
        x.insert(0, 0, 'a', 1);
        Check.same("the first", x.spot(0, 0), 0);
        Check.same("the middle", x.spot(5, 0), 1);
        Check.same("the last", x.spot(255, 0), 2);
    }

    /** "How many nodes are before the node of an event in order, deleted ones, too" */
    private static void deletedOnesCountAndHaveOne() {
        WeaveCore x = Check.threeBranches();
        Check.same("a, deleted", x.spot(5, 0), 0);
        Check.same("b, deleted twice", x.spot(5, 1), 1);
        Check.same("x", x.spot(3, 0), 2);
        Check.same("c, deleted", x.spot(5, 2), 3);
        Check.same("f", x.spot(5, 5), 6);
        x.heads();
        x.delete(9, 0, 4);
        Check.same("the last when all are deleted", x.spot(5, 5), 6);
    }

    /** "NoSuchElementException: there is no such event" */
    private static void noSuchEvent() {
        WeaveCore x = Check.threeBranches();
        int[][] none = {{5, 6}, {5, -1}, {5, Integer.MAX_VALUE}, {5, Integer.MIN_VALUE}, {4, 0}, {0, 0}, {255, 0},
            {-1, 0}, {256, 0}, {261, 0}, {Integer.MAX_VALUE, 0}, {Integer.MIN_VALUE, 0}, {-1, -1}, {3, 1}, {1, 2},
            {2, -1}};
        for (int[] id : none) {
            Check.fails("spot(" + id[0] + ", " + id[1] + ")", NoSuchElementException.class,
                    () -> x.spot(id[0], id[1]));
        }
    }

    /** "UnsupportedOperationException: it deletes" */
    private static void oneThatDeletes() {
        WeaveCore x = Check.threeBranches();
        int[][] deleting = {{1, 0}, {1, 1}, {2, 0}, {2, 1}};
        for (int[] id : deleting) {
            Check.fails("spot(" + id[0] + ", " + id[1] + ")", UnsupportedOperationException.class,
                    () -> x.spot(id[0], id[1]));
        }
        x.heads();
        x.insert(1, 0, 'y', 1);
        Check.same("the next of that agent inserts, before the deleted first", x.spot(1, 2), 0);
    }

    private static void theLastOfTheLongestText() {
        WeaveCore x = Check.full();
        Check.same("the first", x.spot(0, 0), 0);
        Check.same("the last", x.spot(2, x.events(2) - 1), 8191);
        Check.fails("none behind it", NoSuchElementException.class, () -> x.spot(2, x.events(2)));
    }

    private static void aRefusalChangesNothing() {
        Refused.keepingAll("spot(1, 2)", NoSuchElementException.class, Boundary10SpotTest::withOneListed,
                x -> x.spot(1, 2));
        Refused.keepingAll("spot(1, 1)", UnsupportedOperationException.class, Boundary10SpotTest::withOneListed,
                x -> x.spot(1, 1));
    }

    private static WeaveCore withOneListed() {
        WeaveCore x = Check.threeBranches();
        x.parent(5, 3);
        return x;
    }
}
