/** Promise 9: the smallest and the largest answer, the first and the last index, and beside them. */
public final class Boundary09WhoTest {
    public static void main(String[] args) {
        theSmallestAnswer();
        theLargestAnswer();
        agentsFrom128OnStayPositive();
        noneBesideTheText();
        aRefusalChangesNothing();
        Check.end();
    }

    private static void theSmallestAnswer() {
        WeaveCore x = new WeaveCore();
        x.insert(0, 0, 'a', 1);
        Check.same("who(0)", x.who(0), 0);
    }

    /** "2^32 times the agent + the number" */
    private static void theLargestAnswer() {
        WeaveCore x = new WeaveCore();
        for (int come = 0; come < 8192; come += 64) {
            x.heads();
            x.insert(255, come, 'a', 64);
        }
        Check.same("who(0)", x.who(0), 1095216660480L);
        Check.same("who(8191)", x.who(8191), 1095216668671L);
        Check.fails("who(8192)", IndexOutOfBoundsException.class, () -> x.who(8192));
    }

    private static void agentsFrom128OnStayPositive() {
        WeaveCore x = new WeaveCore();
        x.insert(127, 0, 'a', 1);
        x.insert(128, 0, 'b', 1);
        x.insert(1, 0, 'c', 2);
        Check.same("who(0)", x.who(0), 4294967296L);
        Check.same("who(1)", x.who(1), 4294967297L);
        Check.same("who(2)", x.who(2), 545460846592L);
        Check.same("who(3)", x.who(3), 549755813888L);
    }

    /** "IndexOutOfBoundsException: there is none" */
    private static void noneBesideTheText() {
        WeaveCore x = Check.threeBranches();
        Check.same("who(0), behind deleted ones", x.who(0), 3L << 32);
        Check.same("who(3)", x.who(3), (5L << 32) + 5);
        for (int index : new int[] {-1, 4, 5, 6, 7, 11, Integer.MAX_VALUE, Integer.MIN_VALUE}) {
            Check.fails("who(" + index + ")", IndexOutOfBoundsException.class, () -> x.who(index));
        }
        WeaveCore y = Check.sixLetters();
        y.heads();
        y.delete(5, 0, 6);
        Check.fails("who(0) of a deleted text", IndexOutOfBoundsException.class, () -> y.who(0));
    }

    private static void aRefusalChangesNothing() {
        Refused.keepingAll("who(-1)", IndexOutOfBoundsException.class, () -> {
            WeaveCore x = Check.threeBranches();
            x.parent(5, 3);
            return x;
        }, x -> x.who(-1));
    }
}
