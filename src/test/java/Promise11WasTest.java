/** Promise 11: was answers how long the text of the first n events is. */
public final class Promise11WasTest {
    public static void main(String[] args) {
        WeaveCore x = Check.threeBranches();
        int[] due = {0, 1, 2, 3, 4, 5, 6, 5, 4, 4, 3, 4};
        for (int n = 0; n < due.length; n++) {
            Check.same("was(" + n + ")", x.was(n), due[n]);
        }
        int[] none = {-1, 12, Integer.MAX_VALUE, Integer.MIN_VALUE};
        for (int n : none) {
            Check.fails("was(" + n + ")", IndexOutOfBoundsException.class, () -> x.was(n));
        }
        WeaveCore empty = new WeaveCore();
        Check.same("was(0) of none", empty.was(0), 0);
        Check.fails("was(1) of none", IndexOutOfBoundsException.class, () -> empty.was(1));
        Check.end();
    }
}
