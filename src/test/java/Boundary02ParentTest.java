import java.util.NoSuchElementException;

/** Promise 2: parent at the edges of the ids and of the list, and what a refused call leaves. */
public final class Boundary02ParentTest {
    public static void main(String[] args) {
        takesTheFirstAndTheLastEvent();
        anAgentOrNumberThatCanNotBeIsOfNone();
        refusesOneThatIsOnTheList();
        refusesTheSeventeenth();
        testsInTheOrderTold();
        takesAnyEventWhetherAnAncestorOrNot();
        Check.end();
    }

    private static void takesTheFirstAndTheLastEvent() {
        WeaveCore x = Check.threeBranches();
        Check.same("the very first", x.parent(5, 0), 1);
        Check.same("an agent's latest", x.parent(5, 5), 2);
        Check.same("a deleting one", x.parent(2, 1), 3);
        Check.same("the very last", x.parent(3, 0), 4);
        Check.same("just these", Picture.list(x), "list 2.1 3.0 5.0 5.5");
    }

    /** "(an agent or number that can not be is of none)", "NoSuchElementException: there is no such event" */
    private static void anAgentOrNumberThatCanNotBeIsOfNone() {
        int[][] none = {{5, 6}, {5, -1}, {5, 8192}, {5, Integer.MAX_VALUE}, {5, Integer.MIN_VALUE}, {4, 0}, {0, 0},
            {255, 0}, {-1, 0}, {256, 0}, {261, 0}, {Integer.MAX_VALUE, 0}, {Integer.MIN_VALUE, 0}, {-1, -1}, {3, 1},
            {Integer.MIN_VALUE + 5, 0}, {5, Integer.MIN_VALUE + 1}};
        for (int[] id : none) {
            Refused.keepingAll("parent(" + id[0] + ", " + id[1] + ")", NoSuchElementException.class,
                    Boundary02ParentTest::withTwoListed, x -> x.parent(id[0], id[1]));
        }
    }

    /** "UnsupportedOperationException: it is on the list" */
    private static void refusesOneThatIsOnTheList() {
        Refused.keepingAll("the first of it", UnsupportedOperationException.class,
                Boundary02ParentTest::withTwoListed, x -> x.parent(5, 2));
        Refused.keepingAll("the last of it", UnsupportedOperationException.class,
                Boundary02ParentTest::withTwoListed, x -> x.parent(1, 0));
        WeaveCore x = Check.threeBranches();
        x.heads();
        Check.fails("one that heads put there", UnsupportedOperationException.class, () -> x.parent(2, 1));
        Check.same("one that it did not", x.parent(2, 0), 4);
        WeaveCore y = Check.sixLetters();
        y.parent(5, 5);
        y.insert(5, 6, 'g', 1);
        Check.same("one that an insert took", y.parent(5, 5), 1);
    }

    /** "THE LIST has up to 16 different events", "IllegalStateException: 16 are there" */
    private static void refusesTheSeventeenth() {
        WeaveCore x = withSixteenListed();
        Check.fails("the seventeenth", IllegalStateException.class, () -> x.parent(5, 16));
        Check.fails("another", IllegalStateException.class, () -> x.parent(5, 17));
        Refused.keepingAll("the seventeenth", IllegalStateException.class,
                Boundary02ParentTest::withSixteenListed, y -> y.parent(5, 16));
        WeaveCore heads = Check.sixteenAgents();
        heads.parent(0, 0);
        heads.insert(0, 1, 'x', 1);
        Check.same("heads()", heads.heads(), 16);
        Check.fails("a seventeenth behind the heads", IllegalStateException.class, () -> heads.parent(0, 0));
        Check.same("and none was lost", heads.seen(), 17);
    }

    private static void testsInTheOrderTold() {
        Refused.keepingAll("no event, and 16 are there", NoSuchElementException.class,
                Boundary02ParentTest::withSixteenListed, x -> x.parent(5, 20));
        Refused.keepingAll("on the list, and 16 are there", UnsupportedOperationException.class,
                Boundary02ParentTest::withSixteenListed, x -> x.parent(5, 0));
        Refused.keepingAll("the last of it, and 16 are there", UnsupportedOperationException.class,
                Boundary02ParentTest::withSixteenListed, x -> x.parent(5, 15));
    }

    /** It is for seen, insert and delete to refuse these. */
    private static void takesAnyEventWhetherAnAncestorOrNot() {
        WeaveCore x = Check.sixLetters();
        Check.same("parent(5, 5)", x.parent(5, 5), 1);
        Check.same("its parent", x.parent(5, 4), 2);
        Check.same("a far ancestor", x.parent(5, 0), 3);
    }

    private static WeaveCore withTwoListed() {
        WeaveCore x = Check.threeBranches();
        x.parent(5, 2);
        x.parent(1, 0);
        return x;
    }

    private static WeaveCore withSixteenListed() {
        WeaveCore x = new WeaveCore();
        x.insert(5, 0, 'a', 20);
        for (int i = 0; i < 16; i++) {
            Check.same("parent " + i, x.parent(5, i), i + 1);
        }
        return x;
    }
}
