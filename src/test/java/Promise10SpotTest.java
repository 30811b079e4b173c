import java.util.NoSuchElementException;

/** Promise 10: spot counts the nodes before one in the order, deleted ones too. */
public final class Promise10SpotTest {
    public static void main(String[] args) {
        WeaveCore x = Check.sixLetters();
        Check.same("the first", x.spot(5, 0), 0);
        Check.same("the last", x.spot(5, 5), 5);
        x.parent(5, 5);
        x.delete(1, 0, 3);
        Check.same("deleted ones count", x.spot(5, 5), 5);
        Check.same("and have a spot", x.spot(5, 1), 1);
        x.parent(5, 5);
        x.insert(9, 0, 'x', 2);
        Check.same("what comes in between moves it", x.spot(5, 1), 3);
        Check.same("the new one's", x.spot(9, 1), 1);
        Check.fails("one that deletes", UnsupportedOperationException.class, () -> x.spot(1, 2));
        int[][] none = {{1, 3}, {5, 6}, {5, -1}, {4, 0}, {-1, 0}, {256, 0},
            {Integer.MIN_VALUE, 0}, {5, Integer.MAX_VALUE}, {5, Integer.MIN_VALUE}};
        for (int[] id : none) {
            Check.fails("spot(" + id[0] + ", " + id[1] + ")", NoSuchElementException.class,
                    () -> x.spot(id[0], id[1]));
        }
        Check.end();
    }
}
