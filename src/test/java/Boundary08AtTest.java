/** Promise 8: at the first and the last index, and beside them. */
public final class Boundary08AtTest {
    public static void main(String[] args) {
        theFirstAndTheLast();
        theFirstAndTheLastCode();
        noneBesideThem();
        noneOfAnEmptyText();
        theLastOfTheLongestText();
        aRefusalChangesNothing();
        Check.end();
    }

    private static void theFirstAndTheLast() {
        WeaveCore x = Check.threeBranches();
        Check.same("at(0), behind deleted ones", x.at(0), 'x');
        Check.same("at(3)", x.at(3), 'f');
        x.heads();
        x.delete(9, 3, 1);
        Check.same("at(2), before a deleted one", x.at(2), 'e');
        Check.fails("at(3) then", IndexOutOfBoundsException.class, () -> x.at(3));
    }

    private static void theFirstAndTheLastCode() {
        WeaveCore x = new WeaveCore();
        x.insert(9, 0, 1114111, 1);
        x.insert(0, 0, 0, 1);
        Check.same("at(0)", x.at(0), 0);
        Check.same("at(1)", x.at(1), 1114111);
    }

    /** "IndexOutOfBoundsException: there is none" */
    private static void noneBesideThem() {
        WeaveCore x = Check.threeBranches();
        for (int index : new int[] {-1, 4, 5, 6, 7, 11, Integer.MAX_VALUE, Integer.MIN_VALUE}) {
            Check.fails("at(" + index + ")", IndexOutOfBoundsException.class, () -> x.at(index));
        }
    }

    private static void noneOfAnEmptyText() {
        WeaveCore x = Check.sixLetters();
        x.heads();
        x.delete(5, 0, 6);
        for (int index : new int[] {-1, 0, 1, 5}) {
            Check.fails("at(" + index + ") of a deleted text", IndexOutOfBoundsException.class, () -> x.at(index));
        }
    }

    private static void theLastOfTheLongestText() {
        WeaveCore x = Check.full();
        Check.same("at(0)", x.at(0), 'a');
        Check.same("at(8190)", x.at(8190), 'y');
        Check.same("at(8191)", x.at(8191), 'z');
        Check.fails("at(8192)", IndexOutOfBoundsException.class, () -> x.at(8192));
    }

    private static void aRefusalChangesNothing() {
        Refused.keepingAll("at(4)", IndexOutOfBoundsException.class, () -> {
            WeaveCore x = Check.threeBranches();
            x.parent(5, 3);
            return x;
        }, x -> x.at(4));
    }
}
