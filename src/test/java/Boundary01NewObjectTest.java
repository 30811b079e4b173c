import java.util.NoSuchElementException;

/** Promise 1, "makes an object in the state that the terms give": every call on a new object. */
public final class Boundary01NewObjectTest {
    public static void main(String[] args) {
        countsAreOfNothing();
        refusesEveryIndexAndId();
        takesNoEditThatNeedsEvents();
        refusedCallsLeaveItNew();
        objectsAreAlone();
        Check.end();
    }

    /** "none at first", of the events and of the list */
    private static void countsAreOfNothing() {
        WeaveCore x = new WeaveCore();
        Check.same("seen()", x.seen(), 0);
        Check.same("heads()", x.heads(), 0);
        Check.same("seen() of no heads", x.seen(), 0);
        Check.same("length()", x.length(), 0);
        Check.same("was(0)", x.was(0), 0);
        Check.same("line(-1)", x.line(-1), 1);
        Check.same("line(0)", x.line(0), 0);
        Check.same("events(-1)", x.events(-1), 0);
        Check.same("events(0)", x.events(0), 0);
        Check.same("events(255)", x.events(255), 0);
    }

    private static void refusesEveryIndexAndId() {
        WeaveCore x = new WeaveCore();
        for (int i : new int[] {-1, 0, 1, Integer.MIN_VALUE, Integer.MAX_VALUE}) {
            Check.fails("at(" + i + ")", IndexOutOfBoundsException.class, () -> x.at(i));
            Check.fails("who(" + i + ")", IndexOutOfBoundsException.class, () -> x.who(i));
            Check.fails("wasAt(0, " + i + ")", IndexOutOfBoundsException.class, () -> x.wasAt(0, i));
            Check.fails("parent(0, " + i + ")", NoSuchElementException.class, () -> x.parent(0, i));
            Check.fails("parent(" + i + ", 0)", NoSuchElementException.class, () -> x.parent(i, 0));
            Check.fails("spot(0, " + i + ")", NoSuchElementException.class, () -> x.spot(0, i));
            Check.fails("spot(" + i + ", 0)", NoSuchElementException.class, () -> x.spot(i, 0));
        }
        Check.fails("was(1)", IndexOutOfBoundsException.class, () -> x.was(1));
        Check.fails("was(-1)", IndexOutOfBoundsException.class, () -> x.was(-1));
        Check.fails("line(1)", NoSuchElementException.class, () -> x.line(1));
        Check.fails("line(-2)", NoSuchElementException.class, () -> x.line(-2));
    }

    private static void takesNoEditThatNeedsEvents() {
        WeaveCore x = new WeaveCore();
        Check.fails("delete(0, 0, 1)", IndexOutOfBoundsException.class, () -> x.delete(0, 0, 1));
        Check.fails("insert(0, 1, 65, 1)", IndexOutOfBoundsException.class, () -> x.insert(0, 1, 65, 1));
        Check.same("insert(0, 0, 65, 1)", x.insert(0, 0, 65, 1), 1);
        Check.same("it is number 0", x.who(0), 0);
    }

    private static void refusedCallsLeaveItNew() {
        Refused.keepingAll("delete", IndexOutOfBoundsException.class, WeaveCore::new, x -> x.delete(0, 0, 1));
        Refused.keepingAll("insert", IndexOutOfBoundsException.class, WeaveCore::new, x -> x.insert(0, 1, 65, 1));
        Refused.keepingAll("parent", NoSuchElementException.class, WeaveCore::new, x -> x.parent(0, 0));
    }

    private static void objectsAreAlone() {
        WeaveCore full = Check.full();
        full.heads();
        WeaveCore x = new WeaveCore();
        Check.same("events(-1) beside a full one", x.events(-1), 0);
        Check.same("seen() beside a full one", x.seen(), 0);
        Check.same("insert beside a full one", x.insert(200, 0, 'a', 100), 100);
        Check.same("the full one", full.events(200), 0);
        Check.same("its list", full.seen(), 8192);
    }
}
