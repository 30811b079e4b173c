/** Promise 11: was of none, of all and of the middle of a call, and beside them. */
public final class Boundary11WasTest {
    public static void main(String[] args) {
        ofNoneAndOfAll();
        ofTheMiddleOfACall();
        refusedCallsDoNotCome();
        belowZeroOrMoreThanThereAre();
        ofAFullGraph();
        aRefusalChangesNothing();
        Check.end();
    }

    private static void ofNoneAndOfAll() {
        WeaveCore x = Check.threeBranches();
        Check.same("was(0)", x.was(0), 0);
        Check.same("was(1)", x.was(1), 1);
        Check.same("was(11)", x.was(11), 4);
        Check.same("as length()", x.was(x.events(-1)), x.length());
    }

    /** "How long the text of the n events that came first is (as if no others had come)" */
    private static void ofTheMiddleOfACall() {
        WeaveCore x = new WeaveCore();
        x.insert(5, 0, 'a', 100);
        x.heads();
        x.delete(5, 0, 100);
        for (int n = 0; n <= 200; n++) {
            Check.same("was(" + n + ")", x.was(n), n <= 100 ? n : 200 - n);
        }
    }

    private static void refusedCallsDoNotCome() {
        WeaveCore x = Check.sixLetters();
        Check.fails("insert", UnsupportedOperationException.class, () -> x.insert(5, 0, 'x', 1));
        Check.fails("was(7)", IndexOutOfBoundsException.class, () -> x.was(7));
        Check.same("was(6)", x.was(6), 6);
    }

    /** "IndexOutOfBoundsException: n is below 0, or there are less" */
    private static void belowZeroOrMoreThanThereAre() {
        WeaveCore x = Check.threeBranches();
        for (int n : new int[] {-1, -2, Integer.MIN_VALUE, 12, 13, 8192, Integer.MAX_VALUE}) {
            Check.fails("was(" + n + ")", IndexOutOfBoundsException.class, () -> x.was(n));
        }
        x.heads();
        x.delete(9, 0, 1);
        Check.same("was(12) when one more came", x.was(12), 3);
    }

    private static void ofAFullGraph() {
        WeaveCore x = Check.full();
        Check.same("was(8191)", x.was(8191), 8191);
        Check.same("was(8192)", x.was(8192), 8192);
        Check.fails("was(8193)", IndexOutOfBoundsException.class, () -> x.was(8193));
    }

    private static void aRefusalChangesNothing() {
        Refused.keepingAll("was(12)", IndexOutOfBoundsException.class, () -> {
            WeaveCore x = Check.threeBranches();
            x.parent(5, 3);
            return x;
        }, x -> x.was(12));
    }
}
