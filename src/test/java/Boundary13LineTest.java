import java.util.NoSuchElementException;

/** Promise 13: the first and the last line, empty ones, and what is no line. */
public final class Boundary13LineTest {
    public static void main(String[] args) {
        anEmptyTextHasOneLine();
        aTextWithoutLineEndsHasOneLine();
        anEndAtTheBeginningAndAtTheEnd();
        onlyCodeTenEndsALine();
        aDeletedEndEndsNone();
        noSuchLine();
        asManyLinesAsCanBe();
        aRefusalChangesNothing();
        Check.end();
    }

    /** "for n -1 how many lines there are, 1 more than those" */
    private static void anEmptyTextHasOneLine() {
        WeaveCore x = new WeaveCore();
        Check.same("line(-1)", x.line(-1), 1);
        Check.same("line(0)", x.line(0), 0);
        Check.fails("line(1)", NoSuchElementException.class, () -> x.line(1));
    }

    private static void aTextWithoutLineEndsHasOneLine() {
        WeaveCore x = Check.sixLetters();
        Check.same("line(-1)", x.line(-1), 1);
        Check.same("line(0)", x.line(0), 0);
        Check.fails("line(1)", NoSuchElementException.class, () -> x.line(1));
    }

    /** "a line ends behind each code 10" */
    private static void anEndAtTheBeginningAndAtTheEnd() {
        WeaveCore x = Check.sixLetters();
        x.heads();
        x.insert(5, 6, 10, 1);
        Check.same("an end as the last code: line(-1)", x.line(-1), 2);
        Check.same("the empty line behind it", x.line(1), 7);
        x.heads();
        x.insert(5, 0, 10, 1);
        Check.same("one as the first, too: line(-1)", x.line(-1), 3);
        Check.same("line(0)", x.line(0), 0);
        Check.same("line(1)", x.line(1), 1);
        Check.same("line(2)", x.line(2), 8);
        Check.fails("line(3)", NoSuchElementException.class, () -> x.line(3));
        WeaveCore y = new WeaveCore();
        y.insert(5, 0, 10, 1);
        y.heads();
        y.insert(5, 1, 10, 1);
        Check.same("ends alone: line(-1)", y.line(-1), 3);
        Check.same("ends alone: line(1)", y.line(1), 1);
        Check.same("ends alone: line(2)", y.line(2), 2);
    }

    private static void onlyCodeTenEndsALine() {
        WeaveCore x = new WeaveCore();
        x.insert(5, 0, 0, 10);
        Check.same("0 .. 9", x.line(-1), 1);
        x.heads();
        x.insert(5, 10, 11, 100);
        Check.same("11 .. 110", x.line(-1), 1);
        x.heads();
        x.insert(5, 110, 10, 2);
        Check.same("10 and 11", x.line(-1), 2);
        Check.same("line(1)", x.line(1), 111);
    }

    private static void aDeletedEndEndsNone() {
        WeaveCore x = Check.sixLetters();
        x.heads();
        x.insert(5, 3, 10, 1);
        x.heads();
        x.insert(5, 7, 10, 1);
        x.heads();
        x.delete(5, 3, 1);
        Check.same("line(-1)", x.line(-1), 2);
        Check.same("line(1)", x.line(1), 7);
        x.heads();
        x.delete(5, 0, 7);
        Check.same("all deleted: line(-1)", x.line(-1), 1);
        Check.same("all deleted: line(0)", x.line(0), 0);
        Check.fails("all deleted: line(1)", NoSuchElementException.class, () -> x.line(1));
    }

    /** "NoSuchElementException: no such line (n below -1, too)" */
    private static void noSuchLine() {
        WeaveCore x = new WeaveCore();
        x.insert(5, 0, 9, 3);
        for (int n : new int[] {-2, -3, Integer.MIN_VALUE, 2, 3, Integer.MAX_VALUE}) {
            Check.fails("line(" + n + ")", NoSuchElementException.class, () -> x.line(n));
        }
        Check.same("line(1)", x.line(1), 2);
    }

    private static void asManyLinesAsCanBe() {
        WeaveCore x = new WeaveCore();
        for (int i = 0; i < 250; i++) {
            x.heads();
            x.insert(5, i, 10, 1);
        }
        Check.same("line(-1)", x.line(-1), 251);
        Check.same("line(250)", x.line(250), 250);
        Check.fails("line(251)", NoSuchElementException.class, () -> x.line(251));
        WeaveCore full = Check.full();
        Check.same("of the longest text: line(-1)", full.line(-1), 1);
        Check.fails("of the longest text: line(1)", NoSuchElementException.class, () -> full.line(1));
    }

    private static void aRefusalChangesNothing() {
        Refused.keepingAll("line(-2)", NoSuchElementException.class, () -> {
            WeaveCore x = Check.threeBranches();
            x.parent(5, 3);
            return x;
        }, x -> x.line(-2));
    }
}
