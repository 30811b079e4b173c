import java.util.NoSuchElementException;

/** Promise 2: parent puts one event on the list, at most 16, none twice. */
public final class Promise02ParentTest {
    public static void main(String[] args) {
        countsUp();
        refusesWhatIsNoEvent();
        refusesTwice();
        refusesTheSeventeenth();
        Check.end();
    }

    private static void countsUp() {
        WeaveCore x = Check.sixLetters();
        x.insert(7, 0, 'x', 1);
        Check.same("parent(5, 5)", x.parent(5, 5), 1);
        Check.same("parent(7, 0)", x.parent(7, 0), 2);
        Check.same("seen()", x.seen(), 7);
        WeaveCore y = Check.sixLetters();
        y.insert(255, 0, 'x', 1);
        y.insert(0, 0, 'y', 1);
        Check.same("parent(255, 0)", y.parent(255, 0), 1);
        Check.same("parent(0, 0)", y.parent(0, 0), 2);
    }

    private static void refusesWhatIsNoEvent() {
        WeaveCore x = Check.sixLetters();
        x.parent(5, 2);
        int[][] none = {{5, 6}, {5, -1}, {4, 0}, {-1, 0}, {256, 0}, {261, 0},
            {Integer.MIN_VALUE, 0}, {5, Integer.MAX_VALUE}, {5, Integer.MIN_VALUE}, {-1, -1}};
        for (int[] id : none) {
            Check.fails("parent(" + id[0] + ", " + id[1] + ")", NoSuchElementException.class,
                    () -> x.parent(id[0], id[1]));
        }
        Check.same("the list stays", x.seen(), 3);
        Check.same("and counts on", x.parent(5, 3), 2);
    }

    private static void refusesTwice() {
        WeaveCore x = Check.sixLetters();
        x.parent(5, 2);
        Check.fails("parent twice", UnsupportedOperationException.class, () -> x.parent(5, 2));
        Check.same("the list stays", x.seen(), 3);
        x.heads();
        Check.fails("parent of a head on it", UnsupportedOperationException.class, () -> x.parent(5, 5));
    }

    private static void refusesTheSeventeenth() {
        WeaveCore x = new WeaveCore();
        x.insert(5, 0, 'a', 20);
        for (int i = 0; i < 16; i++) {
            Check.same("parent " + i, x.parent(5, i), i + 1);
        }
        Check.fails("no event comes first", NoSuchElementException.class, () -> x.parent(5, 20));
        Check.fails("on the list comes next", UnsupportedOperationException.class, () -> x.parent(5, 15));
        Check.fails("the seventeenth", IllegalStateException.class, () -> x.parent(5, 16));
        x.heads();
        Check.same("there is room again", x.parent(5, 16), 2);
    }
}
