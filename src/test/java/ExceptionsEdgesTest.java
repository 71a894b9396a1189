// The edges of the term 'Exceptions', a test for each sentence.
public final class ExceptionsEdgesTest {
    public static void main(String[] args) {
        index();
        argument();
        stateAndElement();
        firstOfTables();
        firstOfViews();
        firstOfDrafts();
        newObjectStays();
        fullObjectStays();
        openDraftStays();
        undosStay();
        askingStays();
        Check.done("ExceptionsEdgesTest");
    }

    // Three tables, the first with 12 rows; ten views; a draft with 20 rows, in conflict; two undos.
    private static Lensbench full() {
        Lensbench x = Check.with(3, 3, 0, 1, 2, 3, 4, 5, 6, 7, 8, 9, 10, 11);
        x.table(6, 2);
        x.table(1, 1);
        x.insert(1, 510);
        x.of(1);
        x.of(2);
        x.select(0, 1, 1, true);
        x.drop(1, 2, 7);
        x.join(0, 1);
        x.join(0, 2);
        for (int i = 7; i < 10; i++) {
            x.of(0);
        }
        x.open(0);
        x.change(11, 1, 2);
        x.putBack();
        x.open(4);
        x.add(20);
        x.putBack();
        x.open(0);
        for (int i = 0; i < 8; i++) {
            x.add(90 + i);
        }
        return x;
    }

    // Each call of the face, refused in full() in each way that it can be.
    private static void refuseAll(Lensbench x) {
        Check.argument("table", () -> x.table(0, 1));
        Check.state("table", () -> x.table(1, 1));
        Check.index("insert", () -> x.insert(3, 0));
        Check.argument("insert", () -> x.insert(1, 1));
        Check.state("insert, twelve", () -> x.insert(0, 50));
        Check.state("insert, the key", () -> x.insert(1, 610));
        Check.index("delete", () -> x.delete(-1, 0));
        Check.element("delete", () -> x.delete(1, 610));
        Check.index("of", () -> x.of(3));
        Check.state("of", () -> x.of(0));
        Check.index("select", () -> x.select(10, 0, 0, true));
        Check.argument("select", () -> x.select(0, 2, 0, true));
        Check.state("select", () -> x.select(0, 1, 0, true));
        Check.index("drop", () -> x.drop(10, 0, 0));
        Check.argument("drop", () -> x.drop(0, 1, 0));
        Check.state("drop", () -> x.drop(1, 2, 0));
        Check.index("join", () -> x.join(0, 10));
        Check.argument("join", () -> x.join(3, 0));
        Check.state("join", () -> x.join(0, 1));
        Check.index("columns", () -> x.columns(10));
        Check.index("key", () -> x.key(10));
        Check.index("rows", () -> x.rows(10));
        Check.index("row, view", () -> x.row(10, 0));
        Check.index("row, place", () -> x.row(0, 12));
        Check.index("open", () -> x.open(10));
        Check.state("add", () -> x.add(98));
        Check.element("takeOut", () -> x.takeOut(98));
        Check.argument("change", () -> x.change(0, 2, 0));
        Check.element("change, no such row", () -> x.change(98, 1, 0));
        Check.element("change, the new one is there", () -> x.change(0, 1, 9));
        Check.index("draftRow", () -> x.draftRow(-1));
        Check.argument("conflictRow", () -> x.conflictRow(2));
        Check.state("putBack", () -> x.putBack());
    }

    // ---- which exception

    private static void index() {
        Doc.says(Doc.TERMS, "IndexOutOfBoundsException: there is no such table, view or place.");
        Lensbench x = full();
        for (int number : new int[] {3, 4, -1, Integer.MIN_VALUE, Integer.MAX_VALUE}) {
            Check.index("no such table " + number, () -> x.insert(number, 0));
            Check.index("no such table " + number, () -> x.delete(number, 0));
            Check.index("no such table " + number, () -> x.of(number));
        }
        for (int number : new int[] {10, 11, -1, Integer.MIN_VALUE, Integer.MAX_VALUE}) {
            Check.index("no such view " + number, () -> x.select(number, 0, 0, true));
            Check.index("no such view " + number, () -> x.drop(number, 1, 0));
            Check.index("no such view " + number, () -> x.join(number, 1));
            Check.index("no such view " + number, () -> x.join(0, number));
            Check.index("no such view " + number, () -> x.columns(number));
            Check.index("no such view " + number, () -> x.key(number));
            Check.index("no such view " + number, () -> x.rows(number));
            Check.index("no such view " + number, () -> x.row(number, 0));
            Check.index("no such view " + number, () -> x.open(number));
        }
        for (int place : new int[] {12, 13, -1, Integer.MIN_VALUE, Integer.MAX_VALUE}) {
            Check.index("no such place " + place, () -> x.row(0, place));
        }
        Check.index("no such place -1", () -> x.draftRow(-1));
        Check.index("no such place far below 0", () -> x.draftRow(Integer.MIN_VALUE));
    }

    private static void argument() {
        Doc.says(Doc.TERMS, "IllegalArgumentException: another argument is out of its range.");
        Lensbench x = Check.with(3, 1, 11);
        x.open(0);
        for (int outside : new int[] {-1, 100, 1000000, Integer.MIN_VALUE, Integer.MAX_VALUE}) {
            Check.argument("table, columns " + outside, () -> x.table(outside, 1));
            Check.argument("table, key " + outside, () -> x.table(3, outside));
            Check.argument("insert, row " + outside, () -> x.insert(0, outside));
            Check.argument("select, column " + outside, () -> x.select(0, outside, 0, true));
            Check.argument("select, value " + outside, () -> x.select(0, 0, outside, true));
            Check.argument("drop, column " + outside, () -> x.drop(0, outside, 0));
            Check.argument("drop, value " + outside, () -> x.drop(0, 1, outside));
            Check.argument("add, row " + outside, () -> x.add(outside));
            Check.argument("change, column " + outside, () -> x.change(11, outside, 0));
            Check.argument("change, value " + outside, () -> x.change(11, 1, outside));
            Check.argument("conflictRow, which " + outside, () -> x.conflictRow(outside));
            Check.element("delete tells of a row that is not there " + outside, () -> x.delete(0, outside));
            Check.element("takeOut tells of a row that is not there " + outside, () -> x.takeOut(outside));
            Check.element("change tells of a row that is not there " + outside, () -> x.change(outside, 1, 0));
        }
        Check.argument("join, of one table", () -> x.join(0, 0));
    }

    private static void stateAndElement() {
        Doc.says(Doc.TERMS, "IllegalStateException, NoSuchElementException: as the method tells.");
        refuseAll(full());
        Lensbench x = Check.with(3, 1, 11);
        Check.state("23 nothing to undo", () -> x.undo());
        Check.state("13 no draft", () -> x.fewest());
        Check.element("4 no such row", () -> x.delete(0, 12));
    }

    // ---- which of several

    private static void firstOfTables() {
        Doc.says(Doc.TERMS, "If several apply, the one that is named first in the throws clause is thrown;");
        Lensbench x = full();
        Check.argument("table: columns, there are 3", () -> x.table(64, 64));
        Check.argument("table: key, there are 3", () -> x.table(1, 2));
        Check.index("insert: table, row", () -> x.insert(3, -1));
        Check.argument("insert: row, 12 rows", () -> x.insert(0, 100));
        Check.argument("insert: row, its key is there", () -> x.insert(1, 1510));
        Check.argument("insert: row below 0, 12 rows", () -> x.insert(0, -1));
        Check.index("delete: table, no such row", () -> x.delete(3, -1));
    }

    private static void firstOfViews() {
        Doc.says(Doc.TERMS, "If several apply, the one that is named first in the throws clause is thrown;");
        Lensbench x = full();
        Check.index("of: table, 10 views", () -> x.of(3));
        Check.index("select: view, column, value, 10 views", () -> x.select(10, 6, 10, true));
        Check.index("select: view, 10 views", () -> x.select(-1, 0, 0, true));
        Check.argument("select: column, 10 views", () -> x.select(0, 2, 0, true));
        Check.argument("select: value, 10 views", () -> x.select(0, 0, 10, true));
        Check.index("drop: view, column, value, 10 views", () -> x.drop(10, 6, 10));
        Check.index("drop: view, 10 views", () -> x.drop(-1, 1, 0));
        Check.argument("drop: column, 10 views", () -> x.drop(1, 1, 0));
        Check.argument("drop: value, 10 views", () -> x.drop(1, 2, 10));
        Check.index("join: left one, 10 views", () -> x.join(10, 1));
        Check.index("join: right one, 10 views", () -> x.join(0, -1));
        Check.argument("join: one table, 10 views", () -> x.join(0, 0));
        Check.argument("join: key, 10 views", () -> x.join(2, 1));
        Check.index("row: view, place", () -> x.row(10, -1));
    }

    private static void firstOfDrafts() {
        Doc.says(Doc.TERMS, "If several apply, the one that is named first in the throws clause is thrown;");
        Lensbench x = full();
        Check.state("add: 20 rows, row", () -> x.add(-1));
        Check.state("add: 20 rows, row of another column", () -> x.add(100));
        Check.argument("change: column, no such row", () -> x.change(98, 2, 0));
        Check.argument("change: value, no such row", () -> x.change(98, 1, 10));
        Check.argument("change: value, the new one is there", () -> x.change(0, 1, 19));
        Lensbench none = Check.with(3, 1, 11);
        Check.state("add: no draft, row", () -> none.add(-1));
        Check.state("takeOut: no draft, no such row", () -> none.takeOut(-1));
        Check.state("change: no draft, column, value, no such row", () -> none.change(-1, -1, -1));
        Check.state("change: no draft, no such row", () -> none.change(12, 1, 1));
        Check.state("draftRow: no draft, place", () -> none.draftRow(-1));
        Check.state("conflictRow: no draft, which", () -> none.conflictRow(-1));
    }

    // ---- what a refused call leaves

    private static void newObjectStays() {
        Doc.says(Doc.TERMS, "a call that throws changes nothing.");
        Lensbench x = new Lensbench();
        Check.argument("table", () -> x.table(0, 0));
        Check.argument("table", () -> x.table(1, 2));
        Check.index("insert", () -> x.insert(0, 0));
        Check.index("of", () -> x.of(0));
        Check.index("open", () -> x.open(0));
        Check.state("add", () -> x.add(0));
        Check.state("change", () -> x.change(0, 0, 0));
        Check.state("putBack", () -> x.putBack());
        Check.state("undo", () -> x.undo());
        Check.same("all of it", Check.all(new Lensbench()), Check.all(x));
        Check.is("the first table", 0, () -> x.table(3, 1));
        Check.argument("insert", () -> x.insert(0, 100));
        Check.element("delete", () -> x.delete(0, 100));
        Check.is("the first view", 0, () -> x.of(0));
        Check.is("without rows", 0, () -> x.rows(0));
        Check.is("the first row", 1, () -> x.insert(0, 11));
    }

    private static void fullObjectStays() {
        Doc.says(Doc.TERMS, "a call that throws changes nothing.");
        Lensbench x = full();
        Lensbench twin = full();
        Check.same("the twins", Check.all(twin), Check.all(x));
        refuseAll(x);
        Check.same("all of it", Check.all(twin), Check.all(x));
        for (int i = 90; i < 98; i++) {
            x.takeOut(i);
            twin.takeOut(i);
        }
        Check.same("without the conflict", Check.all(twin), Check.all(x));
        Check.is("22 it can be put back", 0, () -> x.putBack());
        twin.putBack();
        for (int left = 2; left >= 0; left--) {
            int due = left;
            Check.is("23 no more and no less to undo", due, () -> x.undo());
            twin.undo();
            Check.same("after undo", Check.all(twin), Check.all(x));
        }
        Check.state("23 none", () -> x.undo());
    }

    private static void openDraftStays() {
        Doc.says(Doc.TERMS, "a call that throws changes nothing.");
        Lensbench x = Check.with(3, 1, 11, 22);
        x.select(0, 1, 1, true);
        x.open(0);
        x.add(13);
        x.add(21);
        String all = Check.all(x);
        Check.index("open", () -> x.open(2));
        Check.state("add", () -> x.add(13));
        Check.argument("add", () -> x.add(101));
        Check.element("takeOut", () -> x.takeOut(12));
        Check.argument("change", () -> x.change(11, 0, 10));
        Check.element("change", () -> x.change(12, 0, 3));
        Check.element("change", () -> x.change(11, 0, 3));
        Check.element("change", () -> x.change(21, 1, 1));
        Check.state("putBack", () -> x.putBack());
        Check.state("undo", () -> x.undo());
        Check.state("insert", () -> x.insert(0, 91));
        Check.argument("insert", () -> x.insert(0, 190));
        Check.element("delete", () -> x.delete(0, 13));
        Check.argument("select", () -> x.select(0, 2, 0, true));
        Check.argument("drop", () -> x.drop(0, 0, 0));
        Check.argument("join", () -> x.join(0, 1));
        Check.argument("table", () -> x.table(0, 0));
        Check.same("all of it", all, Check.all(x));
        Check.is("2 the next table", 1, () -> x.table(1, 1));
        Check.is("5 the next view", 2, () -> x.of(1));
        Check.same("14 the draft", "11 13 21 22", Check.draft(x));
    }

    private static void undosStay() {
        Doc.says(Doc.TERMS, "a call that throws changes nothing.");
        Lensbench x = Check.with(1, 1);
        for (int i = 0; i < 5; i++) {
            x.open(0);
            x.add(i);
            x.putBack();
            Check.state("putBack without a draft", () -> x.putBack());
            x.select(0, 0, i, true);
            x.open(i + 1);
            x.add(9);
            Check.state("putBack in conflict", () -> x.putBack());
        }
        for (int left = 4; left >= 0; left--) {
            int due = left;
            Check.is("23 each one once", due, () -> x.undo());
            Check.same("23 rows", "0 1 2 3 4 ".substring(0, 2 * left).trim(), Check.shown(x, 0));
        }
        Check.state("23 none", () -> x.undo());
        Check.state("23 none", () -> x.undo());
        x.open(0);
        x.add(7);
        x.putBack();
        Check.is("23 one", 0, () -> x.undo());
        Check.same("23 rows", "", Check.shown(x, 0));
    }

    // Calls that only tell leave all as it is, too.
    private static void askingStays() {
        Lensbench x = full();
        String all = Check.all(x);
        Check.same("asked twice", all, Check.all(x));
        x.open(5);
        x.takeOut(x.draftRow(0));
        String other = Check.all(x);
        Check.same("asked twice", other, Check.all(x));
        x.open(3);
        Check.is("22 nothing was put back by asking", 0, () -> x.putBack());
    }
}
