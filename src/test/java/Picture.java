import java.util.NoSuchElementException;

/** All that a small object answers, as one text. It looks at the list by filling it, so it comes last. */
final class Picture {
    /** The agents that the small objects of the tests have. */
    private static final int[] NAMES = {0, 1, 2, 3, 5, 9, 255};

    private Picture() {
    }

    static String of(WeaveCore x) {
        StringBuilder all = new StringBuilder();
        int came = x.events(-1);
        for (int n = 0; n <= came; n++) {
            all.append(Check.oldText(x, n)).append('/');
        }
        all.append(" text ").append(Check.text(x)).append(" lines ").append(x.line(-1)).append(" who");
        int length = x.length();
        for (int i = 0; i < length; i++) {
            all.append(' ').append(x.who(i));
        }
        all.append(" events ").append(came).append(" spots");
        for (int name : NAMES) {
            int count = x.events(name);
            for (int number = 0; number < count; number++) {
                all.append(' ').append(name).append('.').append(number).append('@').append(spot(x, name, number));
            }
        }
        return all.append(' ').append(list(x)).toString();
    }

    /** What is on the list: just that is refused as being there. */
    static String list(WeaveCore x) {
        StringBuilder all = new StringBuilder("list");
        for (int name : NAMES) {
            int count = x.events(name);
            for (int number = 0; number < count; number++) {
                if (isListed(x, name, number)) {
                    all.append(' ').append(name).append('.').append(number);
                }
            }
        }
        return all.toString();
    }

    private static boolean isListed(WeaveCore x, int name, int number) {
        try {
            x.parent(name, number);
            return false;
        } catch (UnsupportedOperationException e) {
            return true;
        } catch (IllegalStateException | NoSuchElementException e) {
            return false;
        }
    }

    private static String spot(WeaveCore x, int name, int number) {
        try {
            return Integer.toString(x.spot(name, number));
        } catch (UnsupportedOperationException e) {
            return "deletes";
        }
    }
}
