/** What all tests share: counts wrong answers, prints each, and ends with exit code 1 if there was one. */
final class Check {
    private static int wrong = 0;
    private static int looked = 0;

    private Check() {
    }

    static void same(String what, long got, long due) {
        looked++;
        if (got != due) {
            tell(what + " answered " + got + ", due is " + due);
        }
    }

    static void same(String what, String got, String due) {
        looked++;
        if (!got.equals(due)) {
            tell(what + " answered \"" + got + "\", due is \"" + due + "\"");
        }
    }

    static void fails(String what, Class<? extends RuntimeException> due, Runnable call) {
        looked++;
        try {
            call.run();
            tell(what + " answered, due is " + due.getSimpleName());
        } catch (RuntimeException e) {
            if (e.getClass() != due) {
                tell(what + " throws " + e + ", due is " + due.getSimpleName());
            } else if (!isThrownByTheClass(e)) {
                tell(what + " lets the library throw, which rule 7 of LANGUAGE.md rules out");
            }
        }
    }

    private static boolean isThrownByTheClass(RuntimeException e) {
        return e.getStackTrace()[0].getClassName().equals("WeaveCore");
    }

    /** The whole text, as at answers it. */
    static String text(WeaveCore x) {
        StringBuilder all = new StringBuilder();
        int length = x.length();
        for (int i = 0; i < length; i++) {
            all.appendCodePoint(x.at(i));
        }
        return all.toString();
    }

    /** The text of the first n events, as wasAt answers it. */
    static String oldText(WeaveCore x, int n) {
        StringBuilder all = new StringBuilder();
        int length = x.was(n);
        for (int i = 0; i < length; i++) {
            all.appendCodePoint(x.wasAt(n, i));
        }
        return all.toString();
    }

    /** An object whose agent 5 wrote "abcdef" as its events 0 to 5. */
    static WeaveCore sixLetters() {
        WeaveCore x = new WeaveCore();
        x.insert(5, 0, 'a', 6);
        return x;
    }

    /** The same letters, of which two agents deleted "ab" and "bc", and a third wrote "x" behind "ab". */
    static WeaveCore threeBranches() {
        WeaveCore x = sixLetters();
        x.parent(5, 5);
        x.delete(1, 0, 2);
        x.parent(5, 5);
        x.delete(2, 1, 2);
        x.parent(5, 1);
        x.insert(3, 2, 'x', 1);
        return x;
    }

    /** An object of 8192 events: each of three agents in turn wrote 100 behind all that there was. */
    static WeaveCore full() {
        WeaveCore x = allButTwo();
        x.heads();
        x.insert(2, 8190, 'y', 2);
        return x;
    }

    /** The same, without the last two. */
    static WeaveCore allButTwo() {
        WeaveCore x = new WeaveCore();
        for (int come = 0; come < 8190; come += 100) {
            x.heads();
            x.insert(come / 100 % 3, come, 'a', Math.min(100, 8190 - come));
        }
        return x;
    }

    /** An object of 16 agents, 0, 17, .. 255, each with one letter, who saw nothing of one another. */
    static WeaveCore sixteenAgents() {
        WeaveCore x = new WeaveCore();
        for (int i = 0; i < 16; i++) {
            x.insert(17 * i, 0, 'a' + i, 1);
        }
        return x;
    }

    static void end() {
        System.out.println("  " + looked + " answers looked at, " + wrong + " wrong");
        if (wrong != 0) {
            System.exit(1);
        }
    }

    private static void tell(String what) {
        wrong++;
        System.out.println("  " + what);
    }
}
