/** Promise 3: heads puts just those events on the list that are ancestors of none. */
public final class Promise03HeadsTest {
    public static void main(String[] args) {
        takesTheLatest();
        replacesTheList();
        dropsWhatHasFollowers();
        holdsSixteen();
        Check.end();
    }

    private static void takesTheLatest() {
        WeaveCore x = Check.sixLetters();
        Check.same("heads()", x.heads(), 1);
        Check.same("seen()", x.seen(), 6);
        Check.same("heads() again", x.heads(), 1);
        Check.fails("the head is the latest", UnsupportedOperationException.class, () -> x.parent(5, 5));
        Check.same("no other is on it", x.parent(5, 4), 2);
    }

    private static void replacesTheList() {
        WeaveCore x = Check.sixLetters();
        x.parent(5, 0);
        x.parent(5, 1);
        Check.same("heads()", x.heads(), 1);
        Check.same("seen()", x.seen(), 6);
    }

    private static void dropsWhatHasFollowers() {
        WeaveCore x = Check.sixLetters();
        x.parent(5, 2);
        x.insert(1, 0, 'x', 2);
        Check.same("two branches", x.heads(), 2);
        Check.same("both seen", x.seen(), 8);
        x.delete(9, 0, 1);
        Check.same("a deleting event is the only head", x.heads(), 1);
        Check.same("it sees all but one", x.seen(), 7);
        x.insert(9, 0, 'z', 1);
        x.parent(5, 5);
        x.insert(5, 0, 'y', 1);
        Check.same("a branch from what was a head", x.heads(), 2);
    }

    private static void holdsSixteen() {
        WeaveCore x = new WeaveCore();
        for (int i = 0; i < 16; i++) {
            x.insert(255 - i, 0, 'a' + i, 2);
        }
        Check.same("heads()", x.heads(), 16);
        Check.same("seen()", x.seen(), 32);
        Check.same("an insert of all of them", x.insert(255, 32, 'z', 1), 33);
        Check.same("heads() then", x.heads(), 1);
    }
}
