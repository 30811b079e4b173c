/** Promise 5: insert, the place of each node, what is refused in which order, and the list after it. */
public final class Promise05InsertTest {
    public static void main(String[] args) {
        insertsInARow();
        runsOfOthersStayWhole();
        siblingsGoByTheirIds();
        hangsAtTheLeftOfTheNext();
        hangsAtTheLeftOfADeletedOne();
        hangsAtTheRightOfWhatHasNone();
        goesBehindAllBelowASmallerOne();
        refusesArgumentsAndKeepsTheList();
        refusesListsAndEmptiesThem();
        refusesAnIndexBehindTheSeen();
        refusesTooManyEvents();
        refusesTooManyAgents();
        Check.end();
    }

    private static void insertsInARow() {
        WeaveCore x = new WeaveCore();
        Check.same("insert of one", x.insert(0, 0, 'a', 1), 1);
        x.heads();
        Check.same("insert of 100", x.insert(255, 1, 'b', 100), 101);
        Check.same("the last code", x.at(100), 'b' + 99);
        x.heads();
        Check.same("in the middle", x.insert(0, 50, 0, 2), 103);
        Check.same("its code", x.at(51), 1);
        Check.same("behind it", x.at(52), 'b' + 49);
        x.heads();
        Check.same("the last code that can be", x.insert(0, 0, 1114110, 2), 105);
        Check.same("it", x.at(1), 1114111);
    }

    private static void runsOfOthersStayWhole() {
        WeaveCore x = Check.sixLetters();
        x.parent(5, 5);
        x.insert(9, 3, 'A', 3);
        x.parent(5, 5);
        x.insert(2, 3, 'X', 3);
        Check.same("text", Check.text(x), "abcXYZABCdef");
    }

    /** The agents come neither in the order of their names nor against it. */
    private static void siblingsGoByTheirIds() {
        WeaveCore x = new WeaveCore();
        int[] names = {7, 200, 3, 40, 1, 255, 100, 0};
        for (int i = 0; i < names.length; i++) {
            x.insert(names[i], 0, 'a' + 2 * i, 2);
        }
        Check.same("at the right of the root", Check.text(x), "opijefabghmncdkl");
        x.heads();
        x.insert(50, 16, '.', 1);
        for (int i = 0; i < names.length; i++) {
            x.parent(50, 0);
            x.insert(names[i], 0, 'A' + 2 * i, 2);
        }
        Check.same("at the left of the first", Check.text(x), "OPIJEFABGHMNCDKLopijefabghmncdkl.");
    }

    private static void hangsAtTheLeftOfTheNext() {
        WeaveCore x = new WeaveCore();
        x.insert(5, 0, 'a', 2);
        x.parent(5, 1);
        x.insert(1, 1, 'x', 1);
        x.parent(5, 0);
        x.insert(0, 1, 'y', 1);
        x.parent(5, 0);
        x.insert(9, 1, 'z', 1);
        // x hangs at the left of b, y and z at the right of a, before and behind b by their agents
        Check.same("text", Check.text(x), "ayxbz");
        x.parent(1, 0);
        x.insert(1, 1, 'w', 1);
        Check.same("before what is there", Check.text(x), "aywxbz");
    }

    private static void hangsAtTheLeftOfADeletedOne() {
        WeaveCore x = new WeaveCore();
        x.insert(5, 0, 'a', 3);
        x.parent(5, 2);
        x.delete(5, 1, 1);
        x.parent(5, 3);
        x.insert(8, 1, 'y', 1);
        x.parent(5, 2);
        x.insert(3, 2, 'x', 1);
        Check.same("spot of what is at the left of the deleted b", x.spot(8, 0), 1);
        Check.same("spot of b", x.spot(5, 1), 2);
        Check.same("text", Check.text(x), "ayxc");
    }

    private static void hangsAtTheRightOfWhatHasNone() {
        WeaveCore x = new WeaveCore();
        x.insert(5, 0, 'a', 2);
        x.parent(5, 1);
        x.insert(3, 1, 'x', 1);
        x.parent(5, 1);
        x.insert(9, 1, 'z', 1);
        x.parent(3, 0);
        x.insert(10, 2, 'y', 1);
        Check.same("y is below x, not beside it", Check.text(x), "axyzb");
    }

    private static void goesBehindAllBelowASmallerOne() {
        WeaveCore x = new WeaveCore();
        x.insert(1, 0, 'a', 1);
        x.parent(1, 0);
        x.insert(2, 1, 'x', 2);
        x.parent(1, 0);
        x.insert(4, 1, 'u', 2);
        x.parent(1, 0);
        x.insert(3, 1, 'p', 2);
        x.insert(9, 0, 'z', 1);
        x.insert(0, 0, '.', 1);
        Check.same("text", Check.text(x), ".axypquvz");
    }

    private static void refusesArgumentsAndKeepsTheList() {
        WeaveCore x = Check.sixLetters();
        x.parent(5, 2);
        x.parent(5, 3);
        int[][] wrong = {{-1, 0, 65, 1}, {256, 0, 65, 1}, {5, -1, 65, 1}, {5, 0, -1, 1}, {5, 0, 1114112, 1},
            {5, 0, 65, 0}, {5, 0, 65, -1}, {5, 0, 65, 101}, {5, 0, 1114111, 2}, {5, 0, 1114013, 100},
            {5, 0, -1, 2}, {5, 0, Integer.MAX_VALUE, 100}, {5, 0, Integer.MIN_VALUE, 1},
            {5, Integer.MIN_VALUE, 65, 1}, {5, 0, 65, Integer.MAX_VALUE}, {5, 0, 65, Integer.MIN_VALUE}};
        for (int[] w : wrong) {
            Check.fails("insert(" + w[0] + ", " + w[1] + ", " + w[2] + ", " + w[3] + ")",
                    IllegalArgumentException.class, () -> x.insert(w[0], w[1], w[2], w[3]));
        }
        Check.same("the list stays", x.parent(5, 4), 3);
        Check.same("nothing came", x.events(-1), 6);
        x.heads();
        Check.same("just no more codes", x.insert(5, 6, 1114012, 100), 106);
    }

    private static void refusesListsAndEmptiesThem() {
        WeaveCore x = Check.sixLetters();
        x.parent(5, 5);
        x.parent(5, 1);
        Check.fails("an ancestor on the list", UnsupportedOperationException.class, () -> x.insert(1, 99, 65, 1));
        Check.same("the list is empty", x.parent(5, 4), 1);
        Check.fails("without its latest", UnsupportedOperationException.class, () -> x.insert(5, 99, 65, 1));
        Check.same("the list is empty", x.seen(), 0);
        Check.fails("an empty list", UnsupportedOperationException.class, () -> x.insert(5, 0, 65, 1));
        x.parent(5, 5);
        Check.same("another goes on", x.insert(6, 6, 'g', 1), 7);
        Check.same("the list is empty", x.seen(), 0);
        x.parent(6, 0);
        Check.same("its latest is an ancestor", x.insert(5, 7, 'h', 1), 8);
        Check.same("what came", x.events(-1), 8);
    }

    private static void refusesAnIndexBehindTheSeen() {
        WeaveCore x = Check.sixLetters();
        Check.fails("without a list", IndexOutOfBoundsException.class, () -> x.insert(1, 1, 65, 1));
        x.parent(5, 2);
        Check.fails("behind three", IndexOutOfBoundsException.class, () -> x.insert(1, 4, 65, 1));
        Check.same("the list is empty", x.seen(), 0);
        x.parent(5, 2);
        Check.fails("far behind", IndexOutOfBoundsException.class, () -> x.insert(1, Integer.MAX_VALUE, 65, 100));
        Check.same("no agent came", x.events(1), 0);
        x.parent(5, 2);
        Check.same("at the end", x.insert(1, 3, 'x', 1), 7);
        Check.same("text", Check.text(x), "abcxdef");
    }

    private static void refusesTooManyEvents() {
        WeaveCore x = new WeaveCore();
        for (int i = 0; i < 81; i++) {
            x.heads();
            x.insert(i % 3, i, i, 100);
        }
        x.heads();
        Check.fails("93 more", IllegalStateException.class, () -> x.insert(0, 0, 65, 93));
        Check.same("the list is empty", x.seen(), 0);
        Check.same("none of them came", x.events(-1), 8100);
        x.heads();
        Check.same("92 more", x.insert(0, 8100, 65, 92), 8192);
        x.heads();
        Check.fails("an index first", IndexOutOfBoundsException.class, () -> x.insert(0, 8193, 65, 1));
        x.heads();
        Check.fails("one more", IllegalStateException.class, () -> x.insert(0, 8192, 65, 1));
        x.heads();
        Check.fails("a deleting one", IllegalStateException.class, () -> x.delete(0, 0, 1));
        Check.same("length()", x.length(), 8192);
        Check.same("was(8192)", x.was(8192), 8192);
        Check.same("the last", x.at(8191), 65 + 91);
    }

    private static void refusesTooManyAgents() {
        WeaveCore x = new WeaveCore();
        for (int i = 0; i < 16; i++) {
            x.heads();
            x.insert(i * 17, 0, 'a', 1);
        }
        x.heads();
        Check.fails("an index first", IndexOutOfBoundsException.class, () -> x.insert(1, 17, 65, 1));
        x.heads();
        Check.fails("a seventeenth", IllegalStateException.class, () -> x.insert(1, 0, 65, 1));
        Check.same("the list is empty", x.seen(), 0);
        x.heads();
        Check.fails("a seventeenth that deletes", IllegalStateException.class, () -> x.delete(1, 0, 1));
        Check.same("it did not come", x.events(1), 0);
        x.heads();
        Check.same("one of the sixteen", x.insert(255, 0, 'b', 1), 17);
    }
}
