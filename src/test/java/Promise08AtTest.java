/** Promise 8: at answers the code at an index of the text, and refuses every other index. */
public final class Promise08AtTest {
    public static void main(String[] args) {
        WeaveCore x = Check.sixLetters();
        x.parent(5, 5);
        x.insert(1, 0, 1114111, 1);
        x.parent(5, 5);
        x.delete(2, 2, 1);
        Check.same("at(0)", x.at(0), 1114111);
        Check.same("at(1)", x.at(1), 'a');
        Check.same("at(3), behind the deleted", x.at(3), 'd');
        Check.same("at(5)", x.at(5), 'f');
        int[] none = {-1, 6, 7, Integer.MAX_VALUE, Integer.MIN_VALUE};
        for (int index : none) {
            Check.fails("at(" + index + ")", IndexOutOfBoundsException.class, () -> x.at(index));
        }
        WeaveCore empty = new WeaveCore();
        Check.fails("at(0) of none", IndexOutOfBoundsException.class, () -> empty.at(0));
        Check.end();
    }
}
