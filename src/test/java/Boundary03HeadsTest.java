/** Promise 3: heads of no event, of one, of sixteen; what was on the list is gone. */
public final class Boundary03HeadsTest {
    public static void main(String[] args) {
        noneOfNone();
        oneOfOne();
        sixteenOfSixteen();
        replacesAFullList();
        replacesATangledList();
        aRefusedEditMakesNoHead();
        isTheSameTwice();
        Check.end();
    }

    private static void noneOfNone() {
        WeaveCore x = new WeaveCore();
        Check.same("heads()", x.heads(), 0);
        Check.same("an insert goes on from none", x.insert(0, 0, 'a', 1), 1);
    }

    private static void oneOfOne() {
        WeaveCore x = new WeaveCore();
        x.insert(255, 0, 'a', 1);
        Check.same("heads()", x.heads(), 1);
        Check.same("it", Picture.list(x), "list 255.0");
        WeaveCore y = Check.threeBranches();
        Check.same("of three branches", y.heads(), 3);
        Check.same("the last of each", Picture.list(y), "list 1.1 2.1 3.0");
    }

    /** "HEADS are the events that are ancestors of none" */
    private static void sixteenOfSixteen() {
        WeaveCore x = Check.sixteenAgents();
        Check.same("heads()", x.heads(), 16);
        Check.same("seen()", x.seen(), 16);
        Check.same("one goes on from all", x.delete(255, 15, 1), 15);
        Check.same("heads() then", x.heads(), 1);
        x.insert(0, 0, 'x', 1);
        Check.same("another went on from that", x.heads(), 1);
        x.parent(17, 0);
        Check.fails("an old head is an ancestor now", UnsupportedOperationException.class, () -> x.seen());
    }

    private static void replacesAFullList() {
        WeaveCore x = new WeaveCore();
        x.insert(5, 0, 'a', 20);
        for (int i = 0; i < 16; i++) {
            x.parent(5, i);
        }
        Check.same("heads()", x.heads(), 1);
        Check.same("none of the sixteen is there", Picture.list(x), "list 5.19");
    }

    private static void replacesATangledList() {
        WeaveCore x = Check.sixLetters();
        x.parent(5, 5);
        x.parent(5, 0);
        Check.same("heads()", x.heads(), 1);
        Check.same("seen()", x.seen(), 6);
    }

    private static void aRefusedEditMakesNoHead() {
        WeaveCore x = Check.sixLetters();
        Check.fails("insert", IndexOutOfBoundsException.class, () -> x.insert(9, 1, 'x', 1));
        Check.same("heads()", x.heads(), 1);
        Check.same("it", Picture.list(x), "list 5.5");
    }

    private static void isTheSameTwice() {
        WeaveCore x = Check.threeBranches();
        Check.same("heads()", x.heads(), 3);
        Check.same("heads() again", x.heads(), 3);
        Check.same("seen()", x.seen(), 4);
    }
}
