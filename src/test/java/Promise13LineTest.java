import java.util.NoSuchElementException;

/** Promise 13: line answers where a line of the text begins, and for -1 how many there are. */
public final class Promise13LineTest {
    public static void main(String[] args) {
        WeaveCore x = new WeaveCore();
        lines(x, "nothing", 0);
        x.insert(5, 0, 'a', 3);
        lines(x, "abc", 0);
        x.parent(5, 2);
        x.insert(5, 1, 10, 1);
        lines(x, "a, bc", 0, 2);
        x.parent(5, 3);
        x.insert(5, 4, 9, 3);
        lines(x, "9, 10 and 11 behind it", 0, 2, 6);
        x.heads();
        x.delete(5, 6, 1);
        lines(x, "an empty last line", 0, 2, 6);
        x.parent(5, 6);
        x.insert(1, 0, 10, 1);
        lines(x, "an empty first line, of a branch", 0, 1, 3, 7);
        x.heads();
        x.delete(1, 2, 1);
        lines(x, "a line end deleted", 0, 1, 6);
        Check.end();
    }

    private static void lines(WeaveCore x, String what, int... begins) {
        Check.same(what + ": line(-1)", x.line(-1), begins.length);
        for (int n = 0; n < begins.length; n++) {
            Check.same(what + ": line(" + n + ")", x.line(n), begins[n]);
        }
        int[] none = {begins.length, begins.length + 1, -2, Integer.MAX_VALUE, Integer.MIN_VALUE};
        for (int n : none) {
            Check.fails(what + ": line(" + n + ")", NoSuchElementException.class, () -> x.line(n));
        }
    }
}
