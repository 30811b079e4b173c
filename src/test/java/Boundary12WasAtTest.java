/** Promise 12: wasAt at the edges of n and of the index of that text. */
public final class Boundary12WasAtTest {
    public static void main(String[] args) {
        theFirstAndTheLastOfEachText();
        laterDeletionsDoNotCount();
        laterNodesDoNotCount();
        nBelowZeroOrMoreThanThereAre();
        noneAtTheIndex();
        ofAFullGraph();
        aRefusalChangesNothing();
        Check.end();
    }

    private static void theFirstAndTheLastOfEachText() {
        WeaveCore x = Check.threeBranches();
        String[] due = {"", "a", "ab", "abc", "abcd", "abcde", "abcdef", "bcdef", "cdef", "cdef", "def", "xdef"};
        for (int n = 1; n < due.length; n++) {
            int last = due[n].length() - 1;
            Check.same("wasAt(" + n + ", 0)", x.wasAt(n, 0), due[n].charAt(0));
            Check.same("wasAt(" + n + ", " + last + ")", x.wasAt(n, last), due[n].charAt(last));
        }
    }

    /** "that text" is one "as if no others had come" */
    private static void laterDeletionsDoNotCount() {
        WeaveCore x = Check.sixLetters();
        x.heads();
        x.delete(5, 0, 6);
        Check.same("before all deletions", Check.oldText(x, 6), "abcdef");
        Check.same("before the last", Check.oldText(x, 11), "f");
        Check.same("after all", Check.oldText(x, 12), "");
    }

    private static void laterNodesDoNotCount() {
        WeaveCore x = Check.sixLetters();
        x.insert(0, 0, 'x', 2);
        x.heads();
        x.insert(9, 4, 'y', 1);
        Check.same("now", Check.text(x), "xyabycdef");
        Check.same("of 8", Check.oldText(x, 8), "xyabcdef");
        Check.same("of 7, in the middle of a call", Check.oldText(x, 7), "xabcdef");
        Check.same("of 6", Check.oldText(x, 6), "abcdef");
    }

    /** "IndexOutOfBoundsException: as for was" */
    private static void nBelowZeroOrMoreThanThereAre() {
        WeaveCore x = Check.threeBranches();
        for (int n : new int[] {-1, -2, Integer.MIN_VALUE, 12, 13, 8192, Integer.MAX_VALUE}) {
            for (int index : new int[] {-1, 0, 3, 4, Integer.MAX_VALUE}) {
                Check.fails("wasAt(" + n + ", " + index + ")", IndexOutOfBoundsException.class,
                        () -> x.wasAt(n, index));
            }
        }
    }

    /** "or there is none" */
    private static void noneAtTheIndex() {
        WeaveCore x = Check.threeBranches();
        int[] lengths = {0, 1, 2, 3, 4, 5, 6, 5, 4, 4, 3, 4};
        for (int n = 0; n < lengths.length; n++) {
            int many = n;
            for (int index : new int[] {-1, lengths[n], lengths[n] + 1, Integer.MAX_VALUE, Integer.MIN_VALUE}) {
                Check.fails("wasAt(" + n + ", " + index + ")", IndexOutOfBoundsException.class,
                        () -> x.wasAt(many, index));
            }
        }
    }

    private static void ofAFullGraph() {
        WeaveCore x = Check.full();
        Check.same("wasAt(8192, 8191)", x.wasAt(8192, 8191), 'z');
        Check.same("wasAt(8191, 8190)", x.wasAt(8191, 8190), 'y');
        Check.fails("wasAt(8191, 8191)", IndexOutOfBoundsException.class, () -> x.wasAt(8191, 8191));
        Check.fails("wasAt(8192, 8192)", IndexOutOfBoundsException.class, () -> x.wasAt(8192, 8192));
        Check.fails("wasAt(8193, 0)", IndexOutOfBoundsException.class, () -> x.wasAt(8193, 0));
    }

    private static void aRefusalChangesNothing() {
        Refused.keepingAll("wasAt(11, 4)", IndexOutOfBoundsException.class, () -> {
            WeaveCore x = Check.threeBranches();
            x.parent(5, 3);
            return x;
        }, x -> x.wasAt(11, 4));
    }
}
