// The edges of promises 18 to 20, 22 and 23, a test for each sentence; those of 21 are in FewestEdgesTest.
public final class PutBackEdgesTest {
    public static void main(String[] args) {
        conflict();
        conflictNumber();
        conflictNumberOfLastView();
        conflictNone();
        conflictState();
        conflictRow();
        conflictRowWhich();
        conflictRowNone();
        conflictRowState();
        conflictRowArgument();
        changes();
        changesOfAll();
        changesNone();
        changesState();
        putBack();
        putBackCount();
        putBackState();
        undo();
        undoLast();
        undoOwnPutBack();
        undoLaterTable();
        undoCount();
        undoState();
        Check.done("PutBackEdgesTest");
    }

    private static Lensbench open(int columns, int key, int... rows) {
        Lensbench x = Check.with(columns, key, rows);
        x.open(0);
        return x;
    }

    // Two rows with one key in a draft of view 0.
    private static Lensbench inConflict() {
        Lensbench x = open(3, 1, 11);
        x.add(21);
        return x;
    }

    private static Lensbench closed() {
        Lensbench x = open(3, 1, 11);
        x.putBack();
        return x;
    }

    // ---- conflict

    private static void conflict() {
        Doc.says(18, "Returns the conflict that putting the draft back has.");
        Lensbench x = open(3, 1, 11);
        x.add(22);
        Check.is("18 none", 0, () -> x.conflict());
        x.change(22, 0, 1);
        Check.is("18 one of the draft as it is", 1, () -> x.conflict());
        Check.is("18 asked again", 1, () -> x.conflict());
        x.takeOut(11);
        Check.is("18 none any more", 0, () -> x.conflict());
        Lensbench y = Check.with(7, 3, 1, 2, 3, 4, 5, 6, 7, 108);
        y.select(0, 2, 1, true);
        y.open(1);
        for (int i = 11; i <= 14; i++) {
            y.add(100 + i);
        }
        Check.is("18 none with twelve rows", 0, () -> y.conflict());
        y.insert(0, 9);
        Check.is("18 with the view as it is now", 4, () -> y.conflict());
        y.delete(0, 1);
        Check.is("18 and now", 0, () -> y.conflict());
    }

    private static void conflictNumber() {
        Doc.says(18, "Returns 10 times the view, and 1 to 4, together; 0 if there is none.");
        Lensbench x = Check.with(7, 1, 111);
        x.table(0b1010, 0b0010);
        x.insert(1, 3010);
        x.select(0, 2, 1, true);
        x.of(1);
        x.join(1, 2);
        x.open(3);
        Check.is("18 none", 0, () -> x.conflict());
        x.add(4112);
        Check.is("18 unlike parts in view 3", 33, () -> x.conflict());
        x.change(4112, 0, 1);
        Check.is("18 same keys in view 3", 31, () -> x.conflict());
        x.change(4111, 0, 2);
        x.change(4112, 3, 3);
        Check.is("18 none", 0, () -> x.conflict());
        x.change(3112, 2, 2);
        Check.is("18 not selected by view 1", 12, () -> x.conflict());
    }

    private static void conflictNumberOfLastView() {
        Doc.says(18, "Returns 10 times the view, and 1 to 4, together");
        Lensbench x = new Lensbench();
        x.table(3, 3);
        x.table(4, 4);
        for (int i = 0; i < 9; i++) {
            x.of(1);
        }
        x.of(0);
        x.open(9);
        for (int i = 0; i < 13; i++) {
            x.add(i);
        }
        Check.is("18 too many in view 9", 94, () -> x.conflict());
        Lensbench y = Check.with(3, 1);
        for (int i = 1; i < 10; i++) {
            y.select(i - 1, 1, 0, true);
        }
        y.open(9);
        y.add(11);
        y.add(1);
        Check.is("18 same keys in view 9", 91, () -> y.conflict());
        y.takeOut(1);
        Check.is("18 not selected by view 9", 92, () -> y.conflict());
    }

    private static void conflictNone() {
        Doc.says(18, "0 if there is none.");
        Lensbench x = open(3, 1);
        Check.is("18 an empty draft of an empty view", 0, () -> x.conflict());
        x.insert(0, 11);
        Check.is("18 an empty draft of a view with rows", 0, () -> x.conflict());
        for (int i = 0; i < 10; i++) {
            x.add(90 + i);
        }
        Check.is("18 all keys once", 0, () -> x.conflict());
    }

    private static void conflictState() {
        Doc.says(18, "Throws `IllegalStateException` if no draft is open");
        Check.state("18 none opened yet", () -> Check.with(3, 1, 11).conflict());
        Check.state("18 without views", () -> new Lensbench().conflict());
        Check.state("18 put back", () -> closed().conflict());
    }

    // ---- conflictRow

    private static void conflictRow() {
        Doc.says(19, "Returns a row of the conflict.");
        Lensbench x = inConflict();
        Check.is("19 asked first of all", 11, () -> x.conflictRow(0));
        Check.is("19 the other one", 21, () -> x.conflictRow(1));
        Check.is("19 once more", 11, () -> x.conflictRow(0));
        x.change(11, 1, 3);
        Check.is("19 of the draft as it is", 21, () -> x.conflictRow(0));
        Check.is("19 the other one", 31, () -> x.conflictRow(1));
    }

    private static void conflictRowWhich() {
        Doc.says(19, "- `which`: 0 or 1");
        Lensbench x = inConflict();
        Check.is("19 which 0", 11, () -> x.conflictRow(0));
        Check.is("19 which 1", 21, () -> x.conflictRow(1));
        Check.argument("19 which -1", () -> x.conflictRow(-1));
        Check.argument("19 which 2", () -> x.conflictRow(2));
    }

    private static void conflictRowNone() {
        Doc.says(19, "Returns the row; NONE if there is no conflict, or it has none such.");
        Lensbench x = Check.with(3, 3, 0);
        x.select(0, 1, 1, true);
        x.open(1);
        Check.is("19 no conflict, 0", -1, () -> x.conflictRow(0));
        Check.is("19 no conflict, 1", -1, () -> x.conflictRow(1));
        x.add(0);
        Check.is("19 not selected: row 0 is no NONE", 0, () -> x.conflictRow(0));
        Check.is("19 not selected: no other one", -1, () -> x.conflictRow(1));
        x.takeOut(0);
        for (int i = 0; i < 10; i++) {
            x.add(10 + i);
        }
        x.insert(0, 25);
        x.insert(0, 36);
        Check.is("18 too many", 4, () -> x.conflict());
        Check.is("19 too many: none", -1, () -> x.conflictRow(0));
        Check.is("19 too many: no other one", -1, () -> x.conflictRow(1));
    }

    private static void conflictRowState() {
        Doc.says(19, "Throws `IllegalStateException` if no draft is open");
        for (int which = -1; which <= 2; which++) {
            int asked = which;
            Check.state("19 none opened yet, which " + which, () -> Check.with(3, 1, 11).conflictRow(asked));
            Check.state("19 put back, which " + which, () -> closed().conflictRow(asked));
        }
    }

    private static void conflictRowArgument() {
        Doc.says(19, "Throws `IllegalArgumentException` if which is out of range");
        Lensbench x = inConflict();
        Lensbench y = open(3, 1, 11);
        for (int which : new int[] {-1, 2, 3, 10, 32, 256, 1 << 16, Integer.MIN_VALUE, Integer.MAX_VALUE}) {
            Check.argument("19 which " + which, () -> x.conflictRow(which));
            Check.argument("19 which " + which + " without a conflict", () -> y.conflictRow(which));
        }
    }

    // ---- changes

    private static void changes() {
        Doc.says(20, "Returns how many rows of tables would change by putting the draft back:"
                + " rows that would go, and rows that would come.");
        Lensbench x = open(3, 1, 11, 22);
        Check.is("20 nothing", 0, () -> x.changes());
        x.takeOut(11);
        Check.is("20 one would go", 1, () -> x.changes());
        x.add(33);
        Check.is("20 one would come, too", 2, () -> x.changes());
        x.change(22, 1, 5);
        Check.is("20 another value: one would go, one would come", 4, () -> x.changes());
        x.delete(0, 22);
        Check.is("20 it has gone already", 3, () -> x.changes());
        x.insert(0, 33);
        Check.is("20 it has come already", 2, () -> x.changes());
        Check.same("20 nothing was put back", "11 33", Check.shown(x, 0));
        Check.same("20 the draft stays", "33 52", Check.draft(x));
    }

    private static void changesOfAll() {
        Doc.says(20, "rows that would go, and rows that would come.");
        Lensbench x = open(3, 3, 0, 1, 2, 3, 4, 5, 6, 7, 8, 9, 10, 11);
        for (int i = 0; i < 12; i++) {
            x.takeOut(i);
        }
        Check.is("20 twelve would go", 12, () -> x.changes());
        for (int i = 20; i < 32; i++) {
            x.add(i);
        }
        Check.is("20 and twelve come", 24, () -> x.changes());
        Lensbench y = Check.with(0b011, 0b001, 11, 22);
        y.table(0b110, 0b010);
        y.insert(1, 310);
        y.of(1);
        y.join(0, 1);
        y.open(2);
        y.change(311, 2, 4);
        Check.is("20 in the right one's table alone", 2, () -> y.changes());
        y.change(411, 2, 3);
        y.takeOut(311);
        Check.is("20 in the left one's table alone", 1, () -> y.changes());
        y.add(922);
        Check.is("20 in both tables", 2, () -> y.changes());
    }

    private static void changesNone() {
        Doc.says(20, "Returns how many; NONE if there is a conflict.");
        Lensbench x = inConflict();
        Check.is("20 same keys", -1, () -> x.changes());
        x.takeOut(21);
        Check.is("20 nothing changes: 0 is no NONE", 0, () -> x.changes());
        x.select(0, 1, 1, true);
        x.open(1);
        x.add(22);
        Check.is("20 not selected", -1, () -> x.changes());
        Lensbench many = open(3, 3);
        for (int i = 0; i < 12; i++) {
            many.add(i);
        }
        Check.is("20 twelve", 12, () -> many.changes());
        many.add(12);
        Check.is("20 too many", -1, () -> many.changes());
    }

    private static void changesState() {
        Doc.says(20, "Throws `IllegalStateException` if no draft is open");
        Check.state("20 none opened yet", () -> Check.with(3, 1, 11).changes());
        Check.state("20 without views", () -> new Lensbench().changes());
        Check.state("20 put back", () -> closed().changes());
    }

    // ---- putBack

    private static void putBack() {
        Doc.says(22, "Puts the draft back; it is not open any more then.");
        Lensbench x = open(3, 1, 11, 22);
        x.of(0);
        x.takeOut(11);
        x.add(33);
        x.putBack();
        Check.same("22 the view has its rows", "22 33", Check.shown(x, 0));
        Check.same("22 another view of the table too", "22 33", Check.shown(x, 1));
        Check.state("22 draftRow", () -> x.draftRow(0));
        Check.state("22 add", () -> x.add(44));
        Check.state("22 takeOut", () -> x.takeOut(22));
        Check.state("22 change", () -> x.change(22, 1, 3));
        Check.state("22 conflict", () -> x.conflict());
        Check.state("22 conflictRow", () -> x.conflictRow(0));
        Check.state("22 changes", () -> x.changes());
        Check.state("22 fewest", () -> x.fewest());
        Check.state("22 putBack", () -> x.putBack());
        Check.is("13 it can be opened again", 2, () -> x.open(0));
        x.takeOut(22);
        x.takeOut(33);
        x.putBack();
        Check.same("22 an empty draft", "", Check.shown(x, 0));
    }

    private static void putBackCount() {
        Doc.says(22, "Returns how many rows of tables change.");
        Lensbench x = open(3, 3);
        Check.is("22 none", 0, () -> x.putBack());
        x.open(0);
        for (int i = 0; i < 12; i++) {
            x.add(i);
        }
        Check.is("22 twelve come", 12, () -> x.putBack());
        x.open(0);
        for (int i = 0; i < 12; i++) {
            x.change(i, 1, i < 10 ? 5 : 6);
        }
        Check.is("22 twelve go, twelve come", 24, () -> x.putBack());
        x.open(0);
        Check.is("22 nothing changes", 0, () -> x.putBack());
    }

    private static void putBackState() {
        Doc.says(22, "Throws `IllegalStateException` if no draft is open, or there is a conflict");
        Check.state("22 none opened yet", () -> Check.with(3, 1, 11).putBack());
        Check.state("22 without views", () -> new Lensbench().putBack());
        Check.state("22 put back already", () -> closed().putBack());
        Lensbench x = inConflict();
        Check.state("22 a conflict", () -> x.putBack());
        Check.state("22 a conflict still", () -> x.putBack());
        Check.same("22 the draft is open", "11 21", Check.draft(x));
        Check.same("22 the view stays", "11", Check.shown(x, 0));
        Check.state("22 nothing was put back that could be undone", () -> x.undo());
        x.takeOut(11);
        Check.is("22 the conflict is gone", 2, () -> x.putBack());
    }

    // ---- undo

    private static void undo() {
        Doc.says(23, "Undoes the last putBack() that is not undone:"
                + " all tables have the rows again that they had ahead of it, those that were made since none.");
        Lensbench x = open(3, 1, 11);
        x.table(3, 1);
        x.insert(1, 55);
        x.of(1);
        x.select(0, 0, 1, false);
        x.add(22);
        x.putBack();
        x.insert(0, 33);
        x.insert(1, 66);
        x.delete(1, 55);
        Check.is("23 undone", 0, () -> x.undo());
        Check.same("23 its own table", "11", Check.shown(x, 0));
        Check.same("23 another table", "55", Check.shown(x, 1));
        Check.same("23 the views follow", "", Check.shown(x, 2));
        Check.is("23 the views stay", 3, () -> x.of(0));
        Check.is("23 the keys are free again", 2, () -> x.insert(0, 92));
    }

    private static void undoLast() {
        Doc.says(23, "Undoes the last putBack() that is not undone");
        Lensbench x = Check.with(1, 1);
        for (int i = 0; i < 3; i++) {
            x.open(0);
            x.add(i);
            x.putBack();
        }
        x.undo();
        Check.same("23 the third", "0 1", Check.shown(x, 0));
        x.undo();
        Check.same("23 the second", "0", Check.shown(x, 0));
        x.open(0);
        x.add(7);
        x.putBack();
        Check.is("23 the one put back since", 1, () -> x.undo());
        Check.same("23 its rows", "0", Check.shown(x, 0));
        Check.is("23 then the first", 0, () -> x.undo());
        Check.same("23 its rows", "", Check.shown(x, 0));
        Check.state("23 then none", () -> x.undo());
    }

    // What was undone is not remembered: a draft put back later has its own rows ahead of it.
    private static void undoOwnPutBack() {
        Doc.says(23, "all tables have the rows again that they had ahead of it");
        Lensbench x = open(1, 1, 1);
        x.add(2);
        x.putBack();
        x.undo();
        x.insert(0, 3);
        x.open(0);
        x.takeOut(1);
        x.putBack();
        Check.is("23", 0, () -> x.undo());
        Check.same("23 rows that came in between", "1 3", Check.shown(x, 0));
        x.open(0);
        x.putBack();
        x.delete(0, 1);
        x.delete(0, 3);
        x.undo();
        Check.same("23 one that changed no row", "1 3", Check.shown(x, 0));
        x.open(0);
        x.takeOut(1);
        x.takeOut(3);
        x.putBack();
        x.undo();
        Check.same("23 one that left no row", "1 3", Check.shown(x, 0));
    }

    private static void undoLaterTable() {
        Doc.says(23, "those that were made since none.");
        Lensbench x = open(1, 1, 1);
        x.putBack();
        x.table(2, 2);
        x.insert(1, 10);
        x.of(1);
        x.open(1);
        x.putBack();
        x.table(4, 4);
        x.insert(2, 100);
        x.of(2);
        Check.is("23 the second", 1, () -> x.undo());
        Check.same("23 made ahead of it", "10", Check.shown(x, 1));
        Check.same("23 made since", "", Check.shown(x, 2));
        Check.is("23 the first", 0, () -> x.undo());
        Check.same("23 made ahead of both", "1", Check.shown(x, 0));
        Check.same("23 made since the first", "", Check.shown(x, 1));
        Check.same("23 made since both", "", Check.shown(x, 2));
        Check.state("2 the tables are there", () -> x.table(1, 1));
        Check.is("3 and take rows", 1, () -> x.insert(2, 100));
    }

    private static void undoCount() {
        Doc.says(23, "Returns how many more can be undone.");
        Lensbench x = Check.with(1, 1);
        for (int puts = 1; puts <= 8; puts++) {
            for (int i = 0; i < puts; i++) {
                x.open(0);
                x.putBack();
            }
            for (int left = Math.min(puts, 5) - 1; left >= 0; left--) {
                int due = left;
                Check.is("23 after " + puts + ", " + left, due, () -> x.undo());
            }
            Check.state("23 none after " + puts, () -> x.undo());
        }
    }

    private static void undoState() {
        Doc.says(23, "Throws `IllegalStateException` if there is none");
        Lensbench x = Check.with(1, 1, 1);
        Check.state("23 without tables", () -> new Lensbench().undo());
        Check.state("23 nothing put back", () -> x.undo());
        x.open(0);
        Check.state("23 a draft that is open", () -> x.undo());
        x.add(2);
        x.putBack();
        x.undo();
        Check.state("23 undone already", () -> x.undo());
        Check.same("23 rows", "1", Check.shown(x, 0));
        x.open(0);
        x.putBack();
        Check.is("23 again", 0, () -> x.undo());
    }
}
