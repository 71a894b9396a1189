import java.util.Arrays;
import java.util.Random;

// What the document's first line says of the whole: by an example, and as laws that hold for any
// tables, views and drafts, in runs that are always the same ones.
public final class AboutEdgesTest {
    private static final int RUNS = 3000;
    private static final int COLUMNS = 5;

    private static int joinsPutBack;
    private static int conflictsTold;

    private final Random random;
    private final int values;
    private final Lensbench x = new Lensbench();
    private final int[] columns = new int[3];
    private final boolean[] isJoin = new boolean[10];
    // For each view a bit for each table that it comes of.
    private final int[] tables = new int[10];
    private int views;
    private String what;

    private AboutEdgesTest(int run) {
        random = new Random(run);
        values = 3 + run % 3;
    }

    public static void main(String[] args) {
        language();
        laws();
        Check.done("AboutEdgesTest");
    }

    private static void language() {
        Doc.says(Doc.TERMS, "Lensbench, a small relational language with views that write back: tables with keys, views"
                + " that select, drop a column and join, drafts of what a view should show, and what that makes of the"
                + " tables");
        Lensbench x = Check.with(0b011, 0b001, 11, 12, 23);
        x.table(0b1110, 0b0010);
        x.insert(1, 5710);
        x.insert(1, 6840);
        x.of(1);
        x.select(0, 0, 3, false);
        x.drop(1, 2, 9);
        x.join(2, 3);
        Check.same("8 selected, dropped and joined", "5011 5012", Check.shown(x, 4));
        x.open(4);
        x.takeOut(5012);
        x.change(5011, 3, 4);
        x.add(7034);
        Check.is("20 12 goes, 34 comes, 4710 comes for 5710, 7930 comes", 5, () -> x.changes());
        Check.is("22 as many", 5, () -> x.putBack());
        Check.same("22 what is put back is got again", "4011 7034", Check.shown(x, 4));
        Check.same("22 row 23, that is not selected, stays", "11 23 34", Check.shown(x, 0));
        Check.same("22 row 6840, that is met by none, stays", "4710 6840 7930", Check.shown(x, 1));
        x.open(4);
        x.add(8035);
        Check.is("18 a conflict", 43, () -> x.conflict());
        Check.is("19 is told by rows", 7034, () -> x.conflictRow(0));
        Check.is("19 is told by rows", 8035, () -> x.conflictRow(1));
    }

    private static void laws() {
        Doc.says(Doc.TERMS, "so that what is put back is got again and what was not touched stays;"
                + " conflicts are told by rows.");
        for (int run = 0; run < RUNS; run++) {
            new AboutEdgesTest(run).play(run);
        }
        System.out.println("joins put back: " + joinsPutBack + ", conflicts told: " + conflictsTold);
        Check.same("the runs put back many joins", "true", "" + (joinsPutBack >= 300));
        Check.same("the runs have many conflicts", "true", "" + (conflictsTold >= 300));
    }

    private void play(int run) {
        makeTables();
        makeViews();
        int view = views - 1 - random.nextInt(Math.min(views, 4));
        what = "run " + run + ", view " + view + ": ";
        putBackUntouched(view);
        x.open(view);
        for (int edits = 1 + random.nextInt(6); edits > 0; edits--) {
            edit(view);
        }
        int conflict = x.conflict();
        if (conflict == 0) {
            putBackEdited(view);
        } else {
            tellConflict(conflict);
        }
    }

    // ---- the laws

    private void putBackUntouched(int view) {
        String before = tablesShown();
        x.open(view);
        Check.is(what + "18 no conflict", 0, x::conflict);
        Check.is(what + "20 nothing touched", 0, x::changes);
        Check.is(what + "22 nothing touched", 0, x::putBack);
        Check.same(what + "22 all tables stay", before, tablesShown());
    }

    private void putBackEdited(int view) {
        joinsPutBack += isJoin[view] ? 1 : 0;
        String draft = Check.draft(x);
        int[][] before = {rows(0), rows(1), rows(2)};
        String shownBefore = tablesShown();
        int changes = x.changes();
        Check.is(what + "22 as changes() tells", changes, x::putBack);
        Check.same(what + "22 what is put back is got again", draft, Check.shown(x, view));
        int unlike = 0;
        for (int table = 0; table < 3; table++) {
            int[] after = rows(table);
            unlike += missing(before[table], after) + missing(after, before[table]);
            if ((tables[view] & 1 << table) == 0) {
                Check.same(what + "22 another table stays", Arrays.toString(before[table]), Arrays.toString(after));
            }
        }
        Check.same(what + "20 rows that go and come", "" + changes, "" + unlike);
        Check.is(what + "23 one more, that changed nothing", 1, x::undo);
        Check.same(what + "23 all tables as ahead of it", shownBefore, tablesShown());
    }

    private void tellConflict(int conflict) {
        conflictsTold++;
        String before = tablesShown();
        String draft = Check.draft(x);
        int kind = conflict % 10;
        int first = x.conflictRow(0);
        int second = x.conflictRow(1);
        Check.same(what + "19 two rows in order for 1 and 3", "" + (kind == 1 || kind == 3), "" + (second > first));
        Check.same(what + "19 no row for 4", "" + (kind == 4), "" + (first == Lensbench.NONE));
        Check.same(what + "19 one alone for 2", "" + (kind == 2 || kind == 4), "" + (second == Lensbench.NONE));
        Check.is(what + "20 none", Lensbench.NONE, x::changes);
        Check.state(what + "22 not put back", x::putBack);
        Check.same(what + "22 all tables stay", before, tablesShown());
        Check.same(what + "22 the draft stays", draft, Check.draft(x));
    }

    // ---- what the laws look at

    // The views 0 to 2 are the tables.
    private int[] rows(int table) {
        int[] rows = new int[x.rows(table)];
        for (int i = 0; i < rows.length; i++) {
            rows[i] = x.row(table, i);
        }
        return rows;
    }

    private String tablesShown() {
        return Arrays.toString(rows(0)) + Arrays.toString(rows(1)) + Arrays.toString(rows(2));
    }

    private static int missing(int[] rows, int[] others) {
        int missing = 0;
        for (int row : rows) {
            missing += Arrays.binarySearch(others, row) >= 0 ? 0 : 1;
        }
        return missing;
    }

    // ---- the runs

    // The key of a later table is in an earlier one, so that they can be joined.
    private void makeTables() {
        columns[0] = 1 | random.nextInt(1 << COLUMNS);
        x.table(columns[0], random.nextInt(3) > 0 ? 1 : columns[0]);
        for (int table = 1; table < 3; table++) {
            int key = bitOf(columns[random.nextInt(table)]);
            columns[table] = key | random.nextInt(1 << COLUMNS);
            x.table(columns[table], key);
        }
        for (int i = 0; i < 30; i++) {
            int table = i % 3;
            Check.answer(() -> x.insert(table, row(columns[table])));
        }
    }

    private int bitOf(int set) {
        int bit = 1 << random.nextInt(COLUMNS);
        while ((set & bit) == 0) {
            bit = 1 << random.nextInt(COLUMNS);
        }
        return bit;
    }

    private int row(int set) {
        int row = 0;
        for (int c = 0, power = 1; c < COLUMNS; c++, power *= 10) {
            row += (set & 1 << c) != 0 ? random.nextInt(values) * power : 0;
        }
        return row;
    }

    private void makeViews() {
        for (int table = 0; table < 3; table++) {
            tables[x.of(table)] = 1 << table;
        }
        views = 3;
        for (int i = 0; i < 25 && views < 10; i++) {
            makeView(random.nextInt(6), random.nextInt(views), random.nextInt(views));
        }
    }

    private void makeView(int kind, int view, int other) {
        int column = random.nextInt(COLUMNS);
        int value = random.nextInt(values);
        String made = kind == 0 ? Check.answer(() -> x.select(view, column, value, value == 0))
                : kind == 1 ? Check.answer(() -> x.drop(view, column, value))
                : Check.answer(() -> x.join(view, other));
        if (!made.startsWith("throws")) {
            isJoin[views] = isJoin[view] || kind > 1;
            tables[views] = tables[view] | (kind > 1 ? tables[other] : 0);
            views++;
        }
    }

    private void edit(int view) {
        int count = 0;
        while (x.draftRow(count) != Lensbench.NONE) {
            count++;
        }
        int row = count == 0 ? 0 : x.draftRow(random.nextInt(count));
        int column = random.nextInt(COLUMNS);
        int value = random.nextInt(values);
        int kind = random.nextInt(3);
        int fresh = row(x.columns(view));
        Check.answer(() -> kind == 0 ? x.add(fresh) : kind == 1 ? x.takeOut(row) : x.change(row, column, value));
    }
}
