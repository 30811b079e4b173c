import java.util.NoSuchElementException;

/** The terms: each limit just reached and just passed, and the ends of the order. */
public final class BoundaryTermsTest {
    public static void main(String[] args) {
        agentsAreZeroTo255();
        numbersHaveNoGap();
        codesAreZeroTo1114111();
        atMost8192Events();
        atMost8192EventsOfOneAgent();
        atMost16Agents();
        aRefusedAgentTakesNoPlace();
        idsGoByTheAgent();
        indexZeroHangsOnTheRoot();
        indexZeroHangsAtTheLeftOfTheFirst();
        theLastIndexHangsOnTheLastSeen();
        deletedOnesCountForTheNext();
        aTextOfWhichAllIsDeleted();
        oneNodeDeletedByAllAgents();
        askingChangesNothing();
        answersRightAtCall512();
        Check.end();
    }

    /** "an AGENT, 0 .. 255" */
    private static void agentsAreZeroTo255() {
        WeaveCore x = new WeaveCore();
        Check.same("agent 0", x.insert(0, 0, 'a', 1), 1);
        Check.same("agent 255", x.insert(255, 0, 'b', 1), 2);
        x.parent(255, 0);
        Check.same("255 deletes", x.delete(255, 0, 1), 1);
        x.parent(0, 0);
        Check.same("0 deletes", x.delete(0, 0, 1), 0);
        Check.same("of 0", x.events(0), 2);
        Check.same("of 255", x.events(255), 2);
    }

    /** "a NUMBER, from 0", "of each agent it has the events from number 0 on without a gap" */
    private static void numbersHaveNoGap() {
        WeaveCore x = new WeaveCore();
        x.insert(5, 0, 'a', 2);
        x.heads();
        x.delete(5, 0, 1);
        Check.fails("a list refused", UnsupportedOperationException.class, () -> x.insert(5, 0, 'x', 3));
        x.heads();
        Check.fails("an index refused", IndexOutOfBoundsException.class, () -> x.insert(5, 2, 'x', 3));
        Check.fails("a code refused", IllegalArgumentException.class, () -> x.insert(5, 0, -1, 3));
        x.heads();
        x.insert(5, 1, 'c', 1);
        Check.same("the next number", x.who(1), (5L << 32) + 3);
        for (int number = 0; number < 4; number++) {
            Check.same("parent(5, " + number + ")", x.parent(5, number), number + 1);
        }
        Check.fails("parent(5, 4)", NoSuchElementException.class, () -> x.parent(5, 4));
    }

    /** "a code (0 .. 1114111)" */
    private static void codesAreZeroTo1114111() {
        WeaveCore x = new WeaveCore();
        Check.same("code 0", x.insert(5, 0, 0, 1), 1);
        x.heads();
        Check.same("code 1114111", x.insert(5, 1, 1114111, 1), 2);
        Check.same("at(0)", x.at(0), 0);
        Check.same("at(1)", x.at(1), 1114111);
        Check.same("wasAt(1, 0)", x.wasAt(1, 0), 0);
        Check.same("wasAt(2, 1)", x.wasAt(2, 1), 1114111);
        x.heads();
        Check.fails("code -1", IllegalArgumentException.class, () -> x.insert(5, 0, -1, 1));
        Check.fails("code 1114112", IllegalArgumentException.class, () -> x.insert(5, 0, 1114112, 1));
    }

    /** "THE GRAPH has at most 8192 events" */
    private static void atMost8192Events() {
        WeaveCore x = Check.allButTwo();
        x.heads();
        Check.fails("three more inserted", IllegalStateException.class, () -> x.insert(2, 0, 'x', 3));
        x.heads();
        Check.fails("three more deleted", IllegalStateException.class, () -> x.delete(2, 0, 3));
        Check.same("none of them came", x.events(-1), 8190);
        Check.same("the text", x.length(), 8190);
        x.heads();
        Check.same("one inserted", x.insert(2, 0, 'x', 1), 8191);
        x.heads();
        Check.same("one deleted", x.delete(2, 0, 1), 8190);
        Check.same("all that can be", x.events(-1), 8192);
        x.heads();
        Check.fails("one more inserted", IllegalStateException.class, () -> x.insert(2, 0, 'x', 1));
        x.heads();
        Check.fails("one more deleted", IllegalStateException.class, () -> x.delete(2, 0, 1));
        Check.same("still all", x.events(-1), 8192);
        Check.same("still the text", x.at(0), 'a');
    }

    private static void atMost8192EventsOfOneAgent() {
        WeaveCore x = new WeaveCore();
        for (int come = 0; come < 8100; come += 100) {
            x.heads();
            x.insert(255, 0, 0, 100);
        }
        x.heads();
        Check.same("the last ones", x.insert(255, 8100, 0, 92), 8192);
        Check.same("of one agent", x.events(255), 8192);
        Check.same("parent of the very last", x.parent(255, 8191), 1);
        Check.same("it sees all", x.seen(), 8192);
        Check.fails("none is behind it", NoSuchElementException.class, () -> x.parent(255, 8192));
    }

    /** "of at most 16 agents" */
    private static void atMost16Agents() {
        WeaveCore x = Check.sixteenAgents();
        Check.same("sixteen", x.events(-1), 16);
        Check.fails("a seventeenth inserts", IllegalStateException.class, () -> x.insert(1, 0, 'x', 1));
        x.heads();
        Check.fails("a seventeenth deletes", IllegalStateException.class, () -> x.delete(254, 0, 1));
        Check.same("of 1", x.events(1), 0);
        Check.same("of 254", x.events(254), 0);
        Check.same("still sixteen", x.events(-1), 16);
        x.parent(255, 0);
        Check.same("one of them goes on", x.insert(255, 1, 'x', 1), 17);
        x.parent(0, 0);
        Check.same("and one deletes", x.delete(0, 0, 1), 16);
    }

    private static void aRefusedAgentTakesNoPlace() {
        WeaveCore x = new WeaveCore();
        for (int i = 0; i < 15; i++) {
            x.insert(17 * i, 0, 'a' + i, 2);
        }
        Check.fails("by its index", IndexOutOfBoundsException.class, () -> x.insert(100, 1, 'x', 1));
        Check.fails("by its n", IllegalArgumentException.class, () -> x.insert(101, 0, 'x', 0));
        Check.fails("with none to delete", IndexOutOfBoundsException.class, () -> x.delete(103, 0, 1));
        x.parent(0, 0);
        x.parent(0, 1);
        Check.fails("by its list", UnsupportedOperationException.class, () -> x.insert(104, 0, 'x', 1));
        Check.same("there is a place for 255", x.insert(255, 0, 'x', 1), 31);
        Check.fails("but for no other", IllegalStateException.class, () -> x.insert(100, 0, 'x', 1));
    }

    /** "IDS are ordered by the agent, then by the number", "ordered by their ids" */
    private static void idsGoByTheAgent() {
        WeaveCore x = new WeaveCore();
        x.insert(255, 0, 'c', 1);
        x.insert(0, 0, 'a', 1);
        x.insert(128, 0, 'b', 1);
        Check.same("text", Check.text(x), "abc");
        x.parent(255, 0);
        x.insert(255, 1, 'z', 1);
        x.parent(255, 0);
        x.insert(1, 1, 'y', 1);
        Check.same("a small agent goes before a smaller number", Check.text(x), "abcyz");
    }

    /** "the root for i = 0. If no node among the ancestors hangs on B at its right, it hangs there" */
    private static void indexZeroHangsOnTheRoot() {
        WeaveCore x = new WeaveCore();
        x.insert(5, 0, 'a', 2);
        x.insert(9, 0, 'z', 1);
        x.insert(1, 0, 'q', 1);
        Check.same("beside what it does not know", Check.text(x), "qabz");
    }

    /** "else it hangs at the left of the one among the ancestors .. that is the next behind B" */
    private static void indexZeroHangsAtTheLeftOfTheFirst() {
        WeaveCore x = new WeaveCore();
        x.insert(5, 0, 'a', 2);
        x.parent(5, 1);
        x.insert(9, 0, 'y', 1);
        Check.same("below the first", Check.text(x), "yab");
        x.insert(2, 0, 'q', 1);
        Check.same("what is beside the first is before all below it", Check.text(x), "qyab");
    }

    /** "the seen node of index i - 1" for the last index that can be */
    private static void theLastIndexHangsOnTheLastSeen() {
        WeaveCore x = new WeaveCore();
        x.insert(5, 0, 'a', 2);
        x.parent(5, 1);
        x.insert(9, 2, 'z', 1);
        x.parent(5, 1);
        x.insert(1, 2, 'y', 1);
        x.parent(5, 0);
        x.insert(3, 1, 'x', 1);
        Check.same("text", Check.text(x), "axbyz");
    }

    /** "the one among the ancestors, deleted ones too" */
    private static void deletedOnesCountForTheNext() {
        WeaveCore x = new WeaveCore();
        x.insert(5, 0, 'a', 3);
        x.parent(5, 2);
        x.delete(5, 2, 1);
        x.parent(5, 3);
        x.insert(9, 2, 'x', 1);
        Check.same("before the deleted last one", x.spot(9, 0), 2);
        Check.same("which is behind it", x.spot(5, 2), 3);
        x.parent(9, 0);
        x.delete(9, 0, 1);
        x.parent(9, 1);
        x.insert(1, 0, 'y', 1);
        Check.same("before the deleted first one", x.spot(1, 0), 0);
        Check.same("text", Check.text(x), "ybx");
    }

    private static void aTextOfWhichAllIsDeleted() {
        WeaveCore x = Check.sixLetters();
        x.heads();
        Check.same("all deleted", x.delete(5, 0, 6), 0);
        x.heads();
        Check.same("nothing is seen", x.seen(), 0);
        Check.fails("index 1", IndexOutOfBoundsException.class, () -> x.insert(5, 1, 'x', 1));
        x.heads();
        Check.same("index 0", x.insert(5, 0, 'x', 1), 1);
        Check.same("before all that was", x.spot(5, 12), 0);
        Check.same("the last that was", x.spot(5, 5), 6);
    }

    /** "It DELETES the seen node of its index (one that others may have deleted, too)" */
    private static void oneNodeDeletedByAllAgents() {
        WeaveCore x = new WeaveCore();
        x.insert(0, 0, 'a', 2);
        for (int i = 15; i >= 0; i--) {
            x.parent(0, 1);
            Check.same("deleted by " + i, x.delete(i, 0, 1), 1);
        }
        Check.same("sixteen heads", x.heads(), 16);
        Check.same("they see one", x.seen(), 1);
        x.insert(0, 0, 'c', 1);
        for (int i = 1; i < 16; i++) {
            x.parent(i, 0);
            Check.same("so does " + i + " alone", x.delete(i, 0, 1), 1);
        }
        Check.same("text", Check.text(x), "c");
        Check.same("events", x.events(-1), 34);
    }

    /** "a call that throws changes nothing but what is told", and one that only asks changes nothing */
    private static void askingChangesNothing() {
        WeaveCore x = Check.threeBranches();
        WeaveCore unasked = Check.threeBranches();
        x.parent(5, 3);
        x.parent(3, 0);
        unasked.parent(5, 3);
        unasked.parent(3, 0);
        long sum = x.seen() + x.length() + x.at(0) + x.who(0) + x.spot(5, 0) + x.was(6) + x.wasAt(6, 5)
                + x.line(0) + x.line(-1) + x.events(5) + x.events(-1);
        Check.same("the answers together", sum, 5 + 4 + 'x' + (3L << 32) + 0 + 6 + 'f' + 0 + 1 + 6 + 11);
        Check.same("what is then", Picture.of(x), Picture.of(unasked));
    }

    /** "An object is used for at most 512 calls after it has been made" */
    private static void answersRightAtCall512() {
        WeaveCore x = Check.full();
        int calls = 2 * 82 + 2;
        for (int index = 8189; calls < 511; index -= 23) {
            Check.same("at(" + index + ")", x.at(index), 'a' + index % 100);
            calls++;
        }
        Check.same("call 512", x.at(8191), 'z');
    }
}
