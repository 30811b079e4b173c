/** Promise 14: events counts those of an agent, or all. */
public final class Promise14EventsTest {
    public static void main(String[] args) {
        WeaveCore x = Check.sixLetters();
        x.heads();
        x.delete(255, 0, 2);
        x.heads();
        x.insert(5, 0, 'x', 1);
        x.insert(0, 0, 'y', 3);
        Check.same("events(5)", x.events(5), 7);
        Check.same("events(255), deleting ones too", x.events(255), 2);
        Check.same("events(0)", x.events(0), 3);
        Check.same("events(4), of none", x.events(4), 0);
        Check.same("events(-1)", x.events(-1), 12);
        int[] wrong = {-2, 256, Integer.MAX_VALUE, Integer.MIN_VALUE};
        for (int agent : wrong) {
            Check.fails("events(" + agent + ")", IllegalArgumentException.class, () -> x.events(agent));
        }
        Check.end();
    }
}
