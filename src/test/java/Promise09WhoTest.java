/** Promise 9: who answers the id of the node at an index as one number. */
public final class Promise09WhoTest {
    public static void main(String[] args) {
        WeaveCore x = Check.sixLetters();
        x.parent(5, 5);
        x.insert(255, 6, 'x', 2);
        x.parent(5, 5);
        x.insert(0, 0, 'y', 2);
        x.heads();
        x.delete(0, 1, 1);
        x.parent(0, 2);
        x.insert(0, 1, 'z', 1);
        Check.same("text", Check.text(x), "yzabcdefxy");
        Check.same("who(0)", x.who(0), 0L);
        Check.same("who(1), a deleting event has a number too", x.who(1), 3L);
        Check.same("who(2)", x.who(2), 5L << 32);
        Check.same("who(7)", x.who(7), (5L << 32) + 5);
        Check.same("who(9)", x.who(9), (255L << 32) + 1);
        int[] none = {-1, 10, Integer.MAX_VALUE, Integer.MIN_VALUE};
        for (int index : none) {
            Check.fails("who(" + index + ")", IndexOutOfBoundsException.class, () -> x.who(index));
        }
        WeaveCore empty = new WeaveCore();
        Check.fails("who(0) of none", IndexOutOfBoundsException.class, () -> empty.who(0));
        Check.end();
    }
}
