/** Promise 6: delete, what it takes from the text, what is refused in which order, and the list after it. */
public final class Promise06DeleteTest {
    public static void main(String[] args) {
        deletesInARow();
        deletesWhatOthersDeletedToo();
        skipsWhatItDoesNotSee();
        refusesArgumentsAndKeepsTheList();
        refusesListsAndEmptiesThem();
        refusesLessThanN();
        Check.end();
    }

    private static void deletesInARow() {
        WeaveCore x = Check.sixLetters();
        x.heads();
        Check.same("delete(5, 1, 3)", x.delete(5, 1, 3), 3);
        Check.same("text", Check.text(x), "aef");
        Check.same("three events", x.events(5), 9);
        x.parent(5, 7);
        Check.same("one after the other", x.seen(), 4);
        x.heads();
        Check.same("by a new agent", x.delete(0, 0, 3), 0);
        WeaveCore y = new WeaveCore();
        y.insert(5, 0, 'a', 100);
        y.heads();
        Check.same("100 at once", y.delete(5, 0, 100), 0);
    }

    private static void deletesWhatOthersDeletedToo() {
        WeaveCore x = Check.sixLetters();
        x.parent(5, 5);
        Check.same("bcd", x.delete(1, 1, 3), 3);
        x.parent(5, 5);
        Check.same("cde", x.delete(2, 2, 3), 2);
        x.parent(5, 5);
        Check.same("c once more", x.delete(3, 2, 1), 2);
        Check.same("text", Check.text(x), "af");
        x.parent(3, 0);
        Check.same("one sees only its own", x.seen(), 5);
        Check.same("and deletes there", x.delete(3, 2, 1), 2);
        x.parent(1, 2);
        Check.same("so does the first who deleted it", x.seen(), 3);
    }

    private static void skipsWhatItDoesNotSee() {
        WeaveCore x = Check.sixLetters();
        x.parent(5, 5);
        x.insert(1, 2, 'x', 2);
        x.parent(5, 5);
        x.delete(2, 3, 1);
        x.parent(5, 5);
        Check.same("b to e around it", x.delete(3, 1, 4), 4);
        Check.same("text", Check.text(x), "axyf");
    }

    private static void refusesArgumentsAndKeepsTheList() {
        WeaveCore x = Check.sixLetters();
        x.parent(5, 2);
        x.parent(5, 3);
        int[][] wrong = {{-1, 0, 1}, {256, 0, 1}, {5, -1, 1}, {5, 0, 0}, {5, 0, -1}, {5, 0, 101},
            {5, Integer.MIN_VALUE, 1}, {5, 0, Integer.MAX_VALUE}, {5, 0, Integer.MIN_VALUE}};
        for (int[] w : wrong) {
            Check.fails("delete(" + w[0] + ", " + w[1] + ", " + w[2] + ")",
                    IllegalArgumentException.class, () -> x.delete(w[0], w[1], w[2]));
        }
        Check.same("the list stays", x.parent(5, 4), 3);
        Check.same("nothing came", x.events(-1), 6);
    }

    private static void refusesListsAndEmptiesThem() {
        WeaveCore x = Check.sixLetters();
        x.parent(5, 5);
        x.parent(5, 1);
        Check.fails("an ancestor on the list", UnsupportedOperationException.class, () -> x.delete(1, 99, 1));
        Check.same("the list is empty", x.parent(5, 4), 1);
        Check.fails("without its latest", UnsupportedOperationException.class, () -> x.delete(5, 99, 1));
        Check.same("the list is empty", x.seen(), 0);
        x.parent(5, 5);
        Check.same("with its latest", x.delete(5, 5, 1), 5);
        Check.same("the list is empty", x.seen(), 0);
    }

    private static void refusesLessThanN() {
        WeaveCore x = Check.sixLetters();
        Check.fails("of none", IndexOutOfBoundsException.class, () -> x.delete(1, 0, 1));
        x.parent(5, 3);
        Check.fails("three from two on", IndexOutOfBoundsException.class, () -> x.delete(1, 2, 3));
        Check.same("the list is empty", x.seen(), 0);
        x.parent(5, 3);
        Check.fails("one from the end on", IndexOutOfBoundsException.class, () -> x.delete(1, 4, 1));
        x.parent(5, 3);
        Check.fails("far behind", IndexOutOfBoundsException.class, () -> x.delete(1, Integer.MAX_VALUE, 100));
        x.parent(5, 3);
        Check.fails("more than there are", IndexOutOfBoundsException.class, () -> x.delete(1, 0, 100));
        Check.same("text", Check.text(x), "abcdef");
        Check.same("no agent came", x.events(1), 0);
        x.parent(5, 3);
        Check.same("two from two on", x.delete(1, 2, 2), 4);
    }
}
