/** Promise 4: seen counts what the list's events and their ancestors leave, and keeps the list. */
public final class Promise04SeenTest {
    public static void main(String[] args) {
        countsTheListsOwnText();
        leavesOutWhatTheyDeleted();
        refusesAnAncestor();
        Check.end();
    }

    private static void countsTheListsOwnText() {
        WeaveCore x = Check.sixLetters();
        Check.same("of none", x.seen(), 0);
        x.parent(5, 3);
        Check.same("of four", x.seen(), 4);
        Check.same("the list stays", x.seen(), 4);
        x.insert(1, 4, 'x', 1);
        x.parent(1, 0);
        Check.same("of another's ancestors", x.seen(), 5);
        x.parent(5, 5);
        Check.same("of both", x.seen(), 7);
    }

    private static void leavesOutWhatTheyDeleted() {
        WeaveCore x = Check.sixLetters();
        x.parent(5, 5);
        x.delete(1, 0, 3);
        x.parent(5, 5);
        x.delete(2, 2, 3);
        x.parent(5, 5);
        Check.same("not an ancestor's", x.seen(), 6);
        x.heads();
        Check.same("one deleted twice counts once", x.seen(), 1);
        x.insert(3, 0, 'x', 1);
        x.parent(2, 1);
        Check.same("up to a middle one", x.seen(), 4);
    }

    private static void refusesAnAncestor() {
        WeaveCore x = Check.sixLetters();
        x.parent(5, 5);
        x.parent(5, 0);
        Check.fails("an ancestor behind", UnsupportedOperationException.class, () -> x.seen());
        Check.fails("the list stays", UnsupportedOperationException.class, () -> x.parent(5, 0));
        x.heads();
        x.insert(1, 0, 'x', 1);
        x.parent(5, 2);
        x.parent(1, 0);
        Check.fails("another agent's ancestor", UnsupportedOperationException.class, () -> x.seen());
        x.heads();
        Check.same("heads are never so", x.seen(), 7);
    }
}
