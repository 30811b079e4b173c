/** Promise 7: the length of an empty, an emptied and a full text, and what does not change it. */
public final class Boundary07LengthTest {
    public static void main(String[] args) {
        ofNothing();
        ofWhatAllIsDeleted();
        ofTheLongestText();
        aSecondDeletionTakesNothing();
        refusedCallsTakeNothing();
        Check.end();
    }

    private static void ofNothing() {
        WeaveCore x = new WeaveCore();
        Check.same("length()", x.length(), 0);
    }

    private static void ofWhatAllIsDeleted() {
        WeaveCore x = Check.sixLetters();
        x.heads();
        x.delete(5, 0, 6);
        Check.same("length()", x.length(), 0);
        x.heads();
        x.insert(5, 0, 'x', 1);
        Check.same("and one more", x.length(), 1);
    }

    private static void ofTheLongestText() {
        WeaveCore x = Check.full();
        Check.same("length()", x.length(), 8192);
    }

    /** "the codes of all nodes, in order, that no event deletes" */
    private static void aSecondDeletionTakesNothing() {
        WeaveCore x = Check.sixLetters();
        for (int agent = 0; agent < 4; agent++) {
            x.parent(5, 5);
            x.delete(agent, 0, 6);
            Check.same("all deleted by " + agent, x.length(), 0);
        }
    }

    private static void refusedCallsTakeNothing() {
        WeaveCore x = Check.sixLetters();
        Check.fails("insert", UnsupportedOperationException.class, () -> x.insert(5, 0, 'x', 3));
        Check.fails("delete", IndexOutOfBoundsException.class, () -> x.delete(9, 0, 1));
        x.heads();
        Check.fails("delete of too many", IndexOutOfBoundsException.class, () -> x.delete(9, 0, 7));
        Check.same("length()", x.length(), 6);
    }
}
