// Compares answers with those that are due; a test ends with done().
final class Check {
    private static int wrong = 0;
    private static int asked = 0;

    interface Call {
        int run();
    }

    static void is(String what, long want, Call call) {
        same(what, String.valueOf(want), answer(call));
    }

    static void refuses(String what, Class<? extends RuntimeException> want, Call call) {
        same(what, "throws." + want.getSimpleName(), answer(call));
    }

    static void index(String what, Call call) {
        refuses(what, IndexOutOfBoundsException.class, call);
    }

    static void argument(String what, Call call) {
        refuses(what, IllegalArgumentException.class, call);
    }

    static void state(String what, Call call) {
        refuses(what, IllegalStateException.class, call);
    }

    static void element(String what, Call call) {
        refuses(what, java.util.NoSuchElementException.class, call);
    }

    static void same(String what, String want, String got) {
        asked++;
        if (!want.equals(got)) {
            wrong++;
            System.out.println(what + " answered " + got + ", due is " + want);
        }
    }

    // Only what a call may throw at all; any other exception ends the test.
    static String answer(Call call) {
        try {
            return String.valueOf(call.run());
        } catch (RuntimeException e) {
            return "throws." + e.getClass().getSimpleName();
        }
    }

    // The rows of a view, as one text.
    static String shown(Lensbench x, int view) {
        StringBuilder text = new StringBuilder();
        for (int i = 0; i < x.rows(view); i++) {
            text.append(i == 0 ? "" : " ").append(x.row(view, i));
        }
        return text.toString();
    }

    // The rows of the open draft, as one text.
    static String draft(Lensbench x) {
        StringBuilder text = new StringBuilder();
        for (int i = 0; x.draftRow(i) != Lensbench.NONE; i++) {
            text.append(i == 0 ? "" : " ").append(x.draftRow(i));
        }
        return text.toString();
    }

    // All that the calls tell of an object without changing it.
    static String all(Lensbench x) {
        StringBuilder text = new StringBuilder();
        for (int i = -1; i <= 10; i++) {
            int view = i;
            text.append(i).append(": ").append(answer(() -> x.columns(view))).append(' ')
                    .append(answer(() -> x.key(view))).append(' ').append(answer(() -> x.rows(view)));
            for (int p = 0; i >= 0 && p < 12; p++) {
                int place = p;
                text.append(' ').append(answer(() -> x.row(view, place)));
            }
            text.append('\n');
        }
        for (int p = 0; p <= 20; p++) {
            int place = p;
            text.append(answer(() -> x.draftRow(place))).append(' ');
        }
        return text.append(answer(() -> x.conflict())).append(' ').append(answer(() -> x.conflictRow(0)))
                .append(' ').append(answer(() -> x.conflictRow(1))).append(' ').append(answer(() -> x.changes()))
                .append(' ').append(answer(() -> x.fewest())).toString();
    }

    // An object whose table 0 has these columns, this key and these rows, and whose view 0 is its TABLE.
    static Lensbench with(int columns, int key, int... rows) {
        Lensbench x = new Lensbench();
        int table = x.table(columns, key);
        for (int row : rows) {
            x.insert(table, row);
        }
        x.of(table);
        return x;
    }

    static void done(String test) {
        System.out.println(test + ": " + asked + " answers, " + wrong + " wrong");
        if (wrong != 0 || asked == 0) {
            System.exit(1);
        }
    }
}
