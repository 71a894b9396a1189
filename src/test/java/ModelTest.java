import java.util.Random;

// Runs of calls, always the same ones, with the answers that Model gives.
public final class ModelTest {
    private static final int RUNS = 1500;
    private static final int DEEP_RUNS = 500;
    private static final int CALLS = 160;

    private final Lensbench x = new Lensbench();
    private final Model y = new Model();
    private final Random random;
    private final int run;
    private final int width;
    private final int values;
    private int tables;
    private int views;
    private final int[] tableColumns = new int[3];
    private final int[] viewColumns = new int[10];
    private int draftView;
    private int call;

    private ModelTest(int run) {
        this.run = run;
        random = new Random(run);
        width = 2 + random.nextInt(5);
        values = run % 4 == 0 ? 10 : 3;
    }

    public static void main(String[] args) {
        for (int run = 0; run < RUNS; run++) {
            new ModelTest(run).play();
        }
        for (int run = RUNS; run < RUNS + DEEP_RUNS; run++) {
            new ModelTest(run).playDeep();
        }
        Check.done("ModelTest");
    }

    private void play() {
        if (run % 2 == 0) {
            prepareJoin();
        }
        for (; call < CALLS; call++) {
            int kind = random.nextInt(100);
            if (tables == 0 || kind < 3) {
                makeTable();
            } else if (kind < 18) {
                writeTable();
            } else if (views == 0 || kind < 30) {
                makeView();
            } else if (kind < 34) {
                editAtLength();
            } else if (kind < 50) {
                editDraft();
            } else {
                askOrPutBack(kind);
            }
            if (call % 16 == 15) {
                compareAll();
            }
        }
    }

    // Ten views over tables that can be joined, and drafts of these alone.
    private void playDeep() {
        prepareJoin();
        for (int i = 0; i < 40 && views < 10; i++, call++) {
            makeView();
        }
        while (call < CALLS) {
            editAtLength();
            if (random.nextInt(3) == 0) {
                writeTable();
                call++;
            } else if (random.nextInt(3) == 0) {
                same("undo()", x::undo, y::undo);
                call++;
            }
            call++;
        }
        compareAll();
    }

    private int same(String what, Check.Call asked, Check.Call due) {
        String want = Check.answer(due);
        Check.same("run " + run + " call " + call + ": " + what, want, Check.answer(asked));
        return want.startsWith("throws") ? -1 : Integer.parseInt(want);
    }

    private boolean rarely() {
        return random.nextInt(25) == 0;
    }

    private int odd() {
        int[] odd = {-1, 10, 12, 63, 64, 32, 33, 1000000, Integer.MIN_VALUE, Integer.MAX_VALUE, random.nextInt()};
        return odd[random.nextInt(odd.length)];
    }

    private int value() {
        return rarely() ? odd() : random.nextInt(values);
    }

    private int column() {
        return rarely() ? odd() : random.nextInt(width);
    }

    private int table() {
        return rarely() ? odd() : random.nextInt(tables);
    }

    private int view() {
        return rarely() ? odd() : Math.max(random.nextInt(views), random.nextInt(views));
    }

    private int row(int columns) {
        if (rarely()) {
            return random.nextInt(1000100) - 50;
        }
        int row = 0;
        int power = 1;
        for (int c = 0; c < 6; c++) {
            row += (columns & 1 << c) != 0 ? random.nextInt(values) * power : 0;
            power *= 10;
        }
        return row;
    }

    private int set(int among) {
        return among & random.nextInt(64);
    }

    // Tables of which the second one's key is in the first one, and the third one's in one of both.
    private void prepareJoin() {
        int all = (1 << width) - 1;
        int first = all & (1 + random.nextInt(63) | random.nextInt(64) | 1);
        table(first, first & -first);
        int key = bitOf(first);
        int second = all & (random.nextInt(64) | key);
        table(second, key);
        int last = bitOf(random.nextBoolean() ? first : second);
        table(all & (random.nextInt(64) | last), last);
        for (int i = 0; i < 30; i++, call++) {
            writeTable();
        }
        for (int i = 0; i < 3; i++, call++) {
            int table = i;
            viewColumns[i] = tableColumns[i];
            same("of(" + table + ")", () -> x.of(table), () -> y.of(table));
            views++;
        }
        for (int i = 0; i < 4; i++, call++) {
            makeView();
        }
    }

    private int bitOf(int set) {
        int bit = 1 << random.nextInt(6);
        while ((set & bit) == 0) {
            bit = 1 << random.nextInt(6);
        }
        return bit;
    }

    private void makeTable() {
        int columns = rarely() ? odd() : 1 + random.nextInt((1 << width) - 1);
        int key = rarely() ? odd() : random.nextBoolean() ? set(columns) & set(columns) : set(columns);
        table(columns, key);
    }

    private void table(int columns, int key) {
        int made = same("table(" + columns + ", " + key + ")", () -> x.table(columns, key), () -> y.table(columns, key));
        if (made != -1) {
            tableColumns[made] = columns;
            tables = made + 1;
        }
    }

    private void writeTable() {
        int table = table();
        int row = row(table >= 0 && table < tables ? tableColumns[table] : 63);
        if (random.nextInt(6) == 0) {
            same("delete(" + table + ", " + row + ")", () -> x.delete(table, row), () -> y.delete(table, row));
        } else {
            same("insert(" + table + ", " + row + ")", () -> x.insert(table, row), () -> y.insert(table, row));
        }
    }

    private void makeView() {
        int kind = views == 0 ? 0 : random.nextInt(10);
        int made;
        if (kind < 2) {
            int table = table();
            made = same("of(" + table + ")", () -> x.of(table), () -> y.of(table));
        } else {
            made = derive(kind, view(), view());
        }
        if (made != -1) {
            viewColumns[made] = x.columns(made);
            views = made + 1;
        }
    }

    private int derive(int kind, int view, int other) {
        int column = column();
        int value = value();
        boolean isSame = random.nextBoolean();
        if (kind < 4) {
            return same("select(" + view + ", " + column + ", " + value + ", " + isSame + ")",
                    () -> x.select(view, column, value, isSame), () -> y.select(view, column, value, isSame));
        }
        if (kind < 6) {
            return same("drop(" + view + ", " + column + ", " + value + ")",
                    () -> x.drop(view, column, value), () -> y.drop(view, column, value));
        }
        return same("join(" + view + ", " + other + ")", () -> x.join(view, other), () -> y.join(view, other));
    }

    private int rowOfDraft() {
        int[] rows = new int[20];
        int count = 0;
        while (count < 20 && x.draftRow(count) != Lensbench.NONE) {
            rows[count] = x.draftRow(count);
            count++;
        }
        return count == 0 || rarely() ? row(viewColumns[draftView]) : rows[random.nextInt(count)];
    }

    // Most times a row whose key no row of the draft has.
    private int freshRow() {
        int fresh = row(viewColumns[draftView]);
        boolean isFree = false;
        for (int i = 0; i < 6 && isOpen() && !isFree; i++) {
            fresh = random.nextBoolean() ? near(rowOfDraft()) : row(viewColumns[draftView]);
            isFree = random.nextInt(12) == 0 || hasFreeKey(fresh);
        }
        return fresh;
    }

    private boolean hasFreeKey(int row) {
        int key = x.key(draftView);
        for (int i = 0; x.draftRow(i) != Lensbench.NONE; i++) {
            boolean isSame = true;
            for (int c = 0, power = 1; c < 6; c++, power *= 10) {
                isSame &= (key & 1 << c) == 0 || row / power % 10 == x.draftRow(i) / power % 10;
            }
            if (isSame) {
                return false;
            }
        }
        return true;
    }

    // Another row, with some values of this one.
    private int near(int row) {
        int other = row(viewColumns[draftView]);
        int mixed = 0;
        for (int c = 0, power = 1; c < 6; c++, power *= 10) {
            mixed += (random.nextInt(3) > 0 ? row : other) / power % 10 * power;
        }
        return mixed;
    }

    private boolean isOpen() {
        return !Check.answer(() -> x.draftRow(0)).startsWith("throws");
    }

    private void editDraft() {
        int row = isOpen() && random.nextInt(3) > 0 ? rowOfDraft() : row(viewColumns[draftView]);
        int kind = random.nextInt(width > 3 ? 4 : 5);
        if (kind < 2) {
            int fresh = freshRow();
            same("add(" + fresh + ")", () -> x.add(fresh), () -> y.add(fresh));
        } else if (kind == 2) {
            same("takeOut(" + row + ")", () -> x.takeOut(row), () -> y.takeOut(row));
        } else {
            int column = column();
            int value = value();
            same("change(" + row + ", " + column + ", " + value + ")",
                    () -> x.change(row, column, value), () -> y.change(row, column, value));
        }
    }

    private void editAtLength() {
        openOne();
        int edits = random.nextInt(16);
        for (int i = 0; i < edits; i++, call++) {
            editDraft();
        }
        askDraft();
        same("putBack()", x::putBack, y::putBack);
    }

    private void askDraft() {
        same("conflict()", x::conflict, y::conflict);
        same("conflictRow(0)", () -> x.conflictRow(0), () -> y.conflictRow(0));
        same("conflictRow(1)", () -> x.conflictRow(1), () -> y.conflictRow(1));
        same("changes()", x::changes, y::changes);
        same("fewest()", x::fewest, y::fewest);
    }

    private void askOrPutBack(int kind) {
        if (kind < 60) {
            openOne();
        } else if (kind < 65) {
            same("conflict()", x::conflict, y::conflict);
        } else if (kind < 70) {
            int which = rarely() ? odd() : random.nextInt(2);
            same("conflictRow(" + which + ")", () -> x.conflictRow(which), () -> y.conflictRow(which));
        } else if (kind < 80) {
            same("changes()", x::changes, y::changes);
        } else if (kind < 84) {
            same("fewest()", x::fewest, y::fewest);
        } else if (kind < 94) {
            same("putBack()", x::putBack, y::putBack);
        } else if (kind < 97) {
            same("undo()", x::undo, y::undo);
        } else {
            askOfView();
        }
    }

    private void openOne() {
        int view = view();
        if (same("open(" + view + ")", () -> x.open(view), () -> y.open(view)) != -1) {
            draftView = view;
        }
    }

    private void askOfView() {
        int view = view();
        int place = rarely() ? odd() : random.nextInt(12);
        same("columns(" + view + ")", () -> x.columns(view), () -> y.columns(view));
        same("key(" + view + ")", () -> x.key(view), () -> y.key(view));
        same("rows(" + view + ")", () -> x.rows(view), () -> y.rows(view));
        same("row(" + view + ", " + place + ")", () -> x.row(view, place), () -> y.row(view, place));
        same("draftRow(" + place + ")", () -> x.draftRow(place), () -> y.draftRow(place));
    }

    private void compareAll() {
        for (int i = 0; i < views; i++) {
            int view = i;
            int count = same("rows(" + view + ")", () -> x.rows(view), () -> y.rows(view));
            for (int p = 0; p < count; p++) {
                int place = p;
                same("row(" + view + ", " + place + ")", () -> x.row(view, place), () -> y.row(view, place));
            }
        }
        for (int i = 0; i < 20; i++) {
            int place = i;
            same("draftRow(" + place + ")", () -> x.draftRow(place), () -> y.draftRow(place));
        }
    }
}
