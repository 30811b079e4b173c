/** The example of README.md, with what it says of each call. */
public final class ReadmeTest {
    public static void main(String[] args) {
        WeaveCore weave = new WeaveCore();
        Check.same("agent 1 writes", weave.insert(1, 0, 'a', 3), 3);
        Check.same("its events", weave.events(1), 3);
        weave.parent(1, 2);
        weave.insert(2, 3, 'x', 1);
        Check.same("behind them", Check.text(weave), "abcx");
        weave.parent(1, 2);
        weave.delete(1, 0, 1);
        Check.same("length()", weave.length(), 3);
        Check.same("at(2)", weave.at(2), 'x');
        Check.same("heads()", weave.heads(), 2);
        Check.same("seen()", weave.seen(), 3);
        Check.same("the whole text", Check.text(weave), "bcx");
        Check.end();
    }
}
