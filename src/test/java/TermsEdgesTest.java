// The edges of 'Rows and tables' and 'Views', a test for each sentence.
public final class TermsEdgesTest {
    public static void main(String[] args) {
        calls();
        none();
        columnsAndValues();
        rowNumber();
        rowOrder();
        tableNumbers();
        tableKeys();
        tableRows();
        viewNumbers();
        viewsAsTheTablesAre();
        tableView();
        selectView();
        selectSet();
        dropView();
        dropKey();
        joinTables();
        joinRows();
        joinKey();
        joinSet();
        Check.done("TermsEdgesTest");
    }

    // ---- the whole

    private static void calls() {
        Doc.says(Doc.TERMS, "An object is used for at most 512 calls after it has been made;"
                + " what later calls answer is free.");
        Lensbench x = new Lensbench();
        x.table(63, 1);
        x.of(0);
        for (int call = 3; call <= 507; call += 5) {
            int value = call % 9;
            Check.is("call " + call, 0, () -> x.open(0));
            Check.is("call " + (call + 1), 1, () -> x.add(value));
            Check.is("call " + (call + 2), 1, () -> x.putBack());
            Check.is("call " + (call + 3), value, () -> x.row(0, 0));
            Check.is("call " + (call + 4), 0, () -> x.undo());
        }
        for (int call = 508; call <= 511; call++) {
            Check.is("call " + call, 0, () -> x.rows(0));
        }
        Check.state("call 512", () -> x.undo());
    }

    private static void none() {
        Doc.says(Doc.TERMS, "The constants: `NONE = -1`: There is none.");
        Lensbench x = Check.with(1, 1);
        x.open(0);
        Check.is("NONE", -1, () -> Lensbench.NONE);
        Check.is("17 no row", Lensbench.NONE, () -> x.draftRow(0));
        Check.is("19 no row", Lensbench.NONE, () -> x.conflictRow(0));
    }

    // ---- rows and tables

    private static void columnsAndValues() {
        Doc.says(Doc.TERMS, "There are the columns 0 to 5, with values 0 to 9.");
        Lensbench x = Check.with(63, 63, 0, 999999);
        for (int c = 0; c <= 5; c++) {
            Lensbench y = Check.with(63, 63, 0, 999999);
            int column = c;
            Check.is("6 column " + c, 1, () -> y.select(0, column, 0, true));
            Check.is("6 value 9", 2, () -> y.select(0, column, 9, true));
            Check.same("6 with 0", "0", Check.shown(y, 1));
            Check.same("6 with 9", "999999", Check.shown(y, 2));
            y.open(0);
            Check.is("16 column " + c, 999999, () -> y.change(999999, column, 9));
        }
        x.open(0);
        Check.argument("6 column 6", () -> x.select(0, 6, 0, true));
        Check.argument("6 column -1", () -> x.select(0, -1, 0, true));
        Check.argument("16 column 6", () -> x.change(0, 6, 0));
        Check.argument("16 column -1", () -> x.change(0, -1, 0));
        Check.argument("6 value 10", () -> x.select(0, 0, 10, true));
        Check.argument("6 value -1", () -> x.select(0, 0, -1, true));
    }

    private static void rowNumber() {
        Doc.says(Doc.TERMS, "A row is told as a number: the value of the column c times 10 to the power of c,"
                + " added up for all its columns; of columns that it has not the digit is 0.");
        Lensbench x = Check.with(0b101101, 0b001000);
        Check.is("3 1 in 0, 2 in 2, 3 in 3, 4 in 5", 1, () -> x.insert(0, 403201));
        for (int c = 0; c < 6; c++) {
            int column = c;
            if (c == 1 || c == 4) {
                Check.argument("6 it has no column " + c, () -> x.select(0, column, 0, true));
            } else {
                int[] values = {1, 0, 2, 3, 0, 4};
                Lensbench y = Check.with(0b101101, 0b001000, 403201);
                y.select(0, column, values[c], true);
                Check.same("6 value of column " + c, "403201", Check.shown(y, 1));
            }
        }
        x.drop(0, 2, 9);
        Check.same("12 the digit of a dropped column is 0", "403001", Check.shown(x, 1));
        x.open(1);
        Check.argument("14 and has to be", () -> x.add(403201));
    }

    private static void rowOrder() {
        Doc.says(Doc.TERMS, "Rows are in order by these numbers.");
        Lensbench x = Check.with(63, 0b100001, 100000, 30001, 3, 29999, 999999, 0);
        Check.same("12 a view", "0 3 29999 30001 100000 999999", Check.shown(x, 0));
        x.open(0);
        x.add(1);
        x.add(99999);
        Check.same("17 a draft", "0 1 3 29999 30001 99999 100000 999999", Check.draft(x));
        x.drop(0, 4, 0);
        Check.same("12 by the digits that are left", "0 1 3 9999 100000 909999", Check.shown(x, 1));
    }

    private static void tableNumbers() {
        Doc.says(Doc.TERMS, "Tables are numbered from 0, at most 3;");
        Lensbench x = new Lensbench();
        for (int i = 0; i < 3; i++) {
            int due = i;
            Check.index("3 table " + i + " is not there yet", () -> x.insert(due, 0));
            Check.is("2 table " + i, due, () -> x.table(1, 1));
            Check.is("3 it is there", 1, () -> x.insert(due, 0));
        }
        Check.state("2 table 3", () -> x.table(1, 1));
        Check.index("3 it is not there", () -> x.insert(3, 0));
    }

    private static void tableKeys() {
        Doc.says(Doc.TERMS, "a table has some columns and a key, some of these;"
                + " no two rows of it have the same values in its key.");
        Lensbench x = Check.with(7, 6, 110);
        Check.state("3 the same values", () -> x.insert(0, 111));
        Check.is("3 another one in column 1", 2, () -> x.insert(0, 120));
        Check.is("3 another one in column 2", 3, () -> x.insert(0, 210));
        x.open(0);
        x.add(111);
        Check.is("18 nor by a draft", 1, () -> x.conflict());
        Check.state("22 nor by a draft", () -> x.putBack());
        x.takeOut(110);
        Check.is("22 in its place", 2, () -> x.putBack());
        Check.state("3 the key is taken still", () -> x.insert(0, 110));
        x.undo();
        Check.state("3 and by what came again", () -> x.insert(0, 111));
    }

    private static void tableRows() {
        Doc.says(Doc.TERMS, "It has at most 12 rows.");
        Lensbench x = Check.with(3, 3);
        for (int i = 1; i <= 12; i++) {
            int due = i;
            Check.is("3 row " + i, due, () -> x.insert(0, due));
        }
        Check.state("3 row 13", () -> x.insert(0, 13));
        x.open(0);
        x.add(13);
        Check.is("18 nor by a draft", 4, () -> x.conflict());
        x.takeOut(1);
        Check.is("22 twelve by a draft", 2, () -> x.putBack());
        Check.state("3 and no more", () -> x.insert(0, 14));
        Check.is("11 twelve", 12, () -> x.rows(0));
        x.table(3, 3);
        Check.is("3 another table has its own", 1, () -> x.insert(1, 14));
    }

    // ---- views

    private static void viewNumbers() {
        Doc.says(Doc.TERMS, "Views are numbered from 0, at most 10;"
                + " a view has columns and a key, and is made of earlier ones;");
        Lensbench x = Check.with(7, 1, 111);
        x.table(1, 1);
        x.insert(1, 1);
        Check.is("5", 1, () -> x.of(1));
        Check.index("6 not of itself", () -> x.select(2, 0, 1, true));
        Check.is("6", 2, () -> x.select(0, 0, 1, true));
        Check.index("7 not of itself", () -> x.drop(3, 1, 0));
        Check.is("7", 3, () -> x.drop(2, 1, 0));
        Check.index("8 not of itself", () -> x.join(3, 4));
        Check.is("8", 4, () -> x.join(3, 1));
        for (int i = 5; i < 10; i++) {
            int due = i;
            Check.is("6 of the one ahead of it", due, () -> x.select(due - 1, 0, 1, true));
        }
        Check.state("5 view 10", () -> x.of(0));
        Check.state("6 view 10", () -> x.select(9, 0, 1, true));
        Check.state("7 view 10", () -> x.drop(0, 1, 0));
        Check.state("8 view 10", () -> x.join(0, 1));
        Check.index("9 view 10", () -> x.columns(10));
        Check.is("9 columns of view 9", 5, () -> x.columns(9));
        Check.is("10 key of view 9", 1, () -> x.key(9));
        Check.same("12 rows of view 9", "101", Check.shown(x, 9));
        x.open(9);
        x.change(101, 2, 7);
        Check.is("22 view 9 through all of them", 2, () -> x.putBack());
        Check.same("22 the table", "711", Check.shown(x, 0));
    }

    private static void viewsAsTheTablesAre() {
        Doc.says(Doc.TERMS, "it has the rows that come of the tables as they are:");
        Lensbench x = Check.with(3, 1, 11);
        x.table(6, 2);
        x.of(1);
        x.select(0, 1, 1, true);
        x.drop(0, 1, 0);
        x.join(0, 1);
        String[] before = {"11", "", "11", "1", ""};
        String[] later = {"12 21", "510", "12", "1 2", "512"};
        rowsAre("at first", x, before);
        x.open(0);
        x.putBack();
        x.delete(0, 11);
        x.insert(0, 12);
        x.insert(0, 21);
        x.insert(1, 510);
        rowsAre("after insert and delete", x, later);
        x.undo();
        rowsAre("after undo", x, before);
        x.insert(1, 510);
        x.open(0);
        x.change(11, 0, 2);
        x.add(21);
        x.putBack();
        rowsAre("after putBack", x, later);
    }

    private static void rowsAre(String when, Lensbench x, String[] due) {
        for (int view = 0; view < due.length; view++) {
            Check.same("12 view " + view + " " + when, due[view], Check.shown(x, view));
        }
    }

    private static void tableView() {
        Doc.says(Doc.TERMS, "- TABLE of a table: its rows.");
        Lensbench x = Check.with(3, 3);
        Check.same("5 none", "", Check.shown(x, 0));
        for (int i = 12; i >= 1; i--) {
            x.insert(0, i);
        }
        Check.same("5 twelve", "1 2 3 4 5 6 7 8 9 10 11 12", Check.shown(x, 0));
    }

    private static void selectView() {
        Doc.says(Doc.TERMS, "- SELECT of a view, by a column and a value, the same or another one:"
                + " the rows of that with this value in the column, or with another one.");
        Lensbench x = Check.with(3, 3, 0, 1, 2, 3, 4, 5, 6, 7, 8, 9, 10, 20);
        x.select(0, 1, 0, true);
        x.select(0, 1, 0, false);
        x.select(0, 1, 9, true);
        x.select(0, 1, 9, false);
        Check.same("6 value 0", "0 1 2 3 4 5 6 7 8 9", Check.shown(x, 1));
        Check.same("6 others than 0", "10 20", Check.shown(x, 2));
        Check.same("6 none has it", "", Check.shown(x, 3));
        Check.is("6 all have another one", 12, () -> x.rows(4));
    }

    private static void selectSet() {
        Doc.says(Doc.TERMS, "Its columns and its key are those of that.");
        Lensbench x = Check.with(63, 0b110000);
        x.drop(0, 0, 0);
        x.select(1, 5, 0, true);
        Check.is("9 columns", 0b111110, () -> x.columns(2));
        Check.is("10 key", 0b110000, () -> x.key(2));
    }

    private static void dropView() {
        Doc.says(Doc.TERMS, "- DROP of a view, of a column that is not in its key, with a default:"
                + " the rows of that without the column.");
        Lensbench x = Check.with(63, 1, 999990, 1, 111112);
        for (int c = 1; c < 6; c++) {
            int column = c;
            Check.is("7 column " + c, column, () -> x.drop(column - 1, column, 7));
        }
        Check.argument("7 the key's", () -> x.drop(5, 0, 7));
        Check.same("7 column 1", "1 111102 999900", Check.shown(x, 1));
        Check.same("7 column 2", "1 111002 999000", Check.shown(x, 2));
        Check.same("7 column 5", "0 1 2", Check.shown(x, 5));
        Check.is("9 the key's column is left", 1, () -> x.columns(5));
    }

    private static void dropKey() {
        Doc.says(Doc.TERMS, "Its key is that of that.");
        Lensbench x = Check.with(63, 0b100010);
        x.drop(0, 0, 0);
        x.drop(1, 4, 0);
        Check.is("10 key", 0b100010, () -> x.key(2));
        Check.is("9 columns", 0b101110, () -> x.columns(2));
    }

    private static void joinTables() {
        Doc.says(Doc.TERMS, "- JOIN of two views, which come of unlike tables alone:");
        Lensbench x = Check.with(1, 1);
        x.table(1, 1);
        x.table(1, 1);
        x.of(1);
        x.of(2);
        Check.is("8 tables 0 and 1", 3, () -> x.join(0, 1));
        Check.is("8 these and table 2", 4, () -> x.join(3, 2));
        Check.is("8 table 2 and these", 5, () -> x.join(2, 3));
        for (int view = 0; view <= 5; view++) {
            int other = view;
            Check.argument("8 all tables and view " + view, () -> x.join(4, other));
            Check.argument("8 view " + view + " and all tables", () -> x.join(other, 5));
        }
        Check.argument("8 tables 0 and 1 and table 1", () -> x.join(3, 1));
        Check.argument("8 table 0 and tables 0 and 1", () -> x.join(0, 3));
    }

    private static void joinRows() {
        Doc.says(Doc.TERMS, "for each row of the left one and each of the right one that have the same values in the"
                + " columns that both have, the row of both together.");
        Lensbench x = Check.with(0b0111, 0b0001);
        x.table(0b1110, 0b0010);
        x.of(1);
        x.join(0, 1);
        Check.same("8 both empty", "", Check.shown(x, 2));
        for (int i = 0; i < 10; i++) {
            x.insert(0, 110 + i);
        }
        Check.same("8 the right one empty", "", Check.shown(x, 2));
        x.insert(1, 9010);
        Check.same("8 unlike in a column that is not in the key", "", Check.shown(x, 2));
        x.insert(1, 120);
        Check.same("8 unlike in the key", "", Check.shown(x, 2));
        x.delete(1, 9010);
        x.insert(1, 9110);
        Check.same("8 one with all", "9110 9111 9112 9113 9114 9115 9116 9117 9118 9119", Check.shown(x, 2));
        x.delete(0, 113);
        x.insert(0, 123);
        Check.same("8 another with the other", "123 9110 9111 9112 9114 9115 9116 9117 9118 9119", Check.shown(x, 2));
    }

    private static void joinKey() {
        Doc.says(Doc.TERMS, "All columns of the key of the right one have to be columns of the left one.");
        for (int key = 1; key <= 7; key++) {
            Lensbench x = Check.with(0b011, 0b001);
            x.table(0b111, key);
            x.of(1);
            if (key <= 3) {
                Check.is("8 key " + key, 2, () -> x.join(0, 1));
            } else {
                Check.argument("8 key " + key, () -> x.join(0, 1));
            }
        }
    }

    private static void joinSet() {
        Doc.says(Doc.TERMS, "Its columns are those of both, its key is that of the left one.");
        Lensbench x = Check.with(0b000111, 0b000101);
        x.table(0b111001, 0b000001);
        x.of(1);
        x.join(0, 1);
        Check.is("9 columns", 63, () -> x.columns(2));
        Check.is("10 key", 0b000101, () -> x.key(2));
        x.table(0b000001, 0b000001);
        x.of(2);
        x.join(2, 3);
        Check.is("9 the right one has no other ones", 63, () -> x.columns(4));
        Check.is("10 key", 0b000101, () -> x.key(4));
    }
}
