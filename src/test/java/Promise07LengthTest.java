/** Promise 7: length counts the nodes that no event deletes. */
public final class Promise07LengthTest {
    public static void main(String[] args) {
        WeaveCore x = Check.sixLetters();
        Check.same("of six", x.length(), 6);
        x.parent(5, 5);
        x.delete(1, 0, 2);
        Check.same("less two", x.length(), 4);
        x.parent(5, 5);
        x.delete(2, 1, 2);
        Check.same("less one more, for one was gone", x.length(), 3);
        x.parent(5, 0);
        x.insert(3, 1, 'x', 1);
        Check.same("and one from a branch", x.length(), 4);
        x.heads();
        Check.same("the list changes nothing", x.length(), 4);
        Check.fails("a call that throws", UnsupportedOperationException.class, () -> {
            x.parent(5, 0);
            x.insert(3, 0, 'x', 1);
        });
        Check.same("nor does a call that throws", x.length(), 4);
        Check.end();
    }
}
