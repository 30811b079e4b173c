import java.util.NoSuchElementException;

/** Promise 1: a new object has no event, no agent, an empty list and an empty text. */
public final class Promise01NewObjectTest {
    public static void main(String[] args) {
        WeaveCore x = new WeaveCore();
        Check.same("length()", x.length(), 0);
        Check.same("events(-1)", x.events(-1), 0);
        Check.same("events(0)", x.events(0), 0);
        Check.same("seen()", x.seen(), 0);
        Check.same("heads()", x.heads(), 0);
        Check.same("was(0)", x.was(0), 0);
        Check.same("line(-1)", x.line(-1), 1);
        Check.same("line(0)", x.line(0), 0);
        Check.fails("at(0)", IndexOutOfBoundsException.class, () -> x.at(0));
        Check.fails("parent(0, 0)", NoSuchElementException.class, () -> x.parent(0, 0));
        objectsShareNothing();
        Check.end();
    }

    private static void objectsShareNothing() {
        WeaveCore x = Check.sixLetters();
        WeaveCore y = new WeaveCore();
        x.parent(5, 5);
        Check.same("length() of another", y.length(), 0);
        Check.same("seen() of another", y.seen(), 0);
        Check.same("insert of another", y.insert(5, 0, 'z', 1), 1);
        Check.same("the first", Check.text(x), "abcdef");
    }
}
