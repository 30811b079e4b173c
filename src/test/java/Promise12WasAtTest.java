/** Promise 12: wasAt answers the codes of the text of the first n events. */
public final class Promise12WasAtTest {
    public static void main(String[] args) {
        WeaveCore x = Check.threeBranches();
        String[] due = {"", "a", "ab", "abc", "abcd", "abcde", "abcdef", "bcdef", "cdef", "cdef", "def", "xdef"};
        for (int n = 0; n < due.length; n++) {
            Check.same("the text of " + n, Check.oldText(x, n), due[n]);
        }
        int[][] none = {{-1, 0}, {12, 0}, {Integer.MAX_VALUE, 0}, {Integer.MIN_VALUE, 0}, {0, 0}, {6, 6}, {6, -1},
            {8, 4}, {11, 4}, {11, Integer.MAX_VALUE}, {11, Integer.MIN_VALUE}, {-1, -1}};
        for (int[] w : none) {
            Check.fails("wasAt(" + w[0] + ", " + w[1] + ")", IndexOutOfBoundsException.class,
                    () -> x.wasAt(w[0], w[1]));
        }
        Check.end();
    }
}
