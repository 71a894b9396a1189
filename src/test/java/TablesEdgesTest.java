// The edges of promises 1 to 4, a test for each sentence.
public final class TablesEdgesTest {
    private static final int[] FAR = {-1, Integer.MIN_VALUE, Integer.MAX_VALUE, -32, 32, 64, 256, 1 << 16};

    public static void main(String[] args) {
        beginsEmpty();
        tableWithoutRows();
        tableColumns();
        tableKey();
        tableNumber();
        tableArgument();
        tableState();
        insertInto();
        insertRow();
        insertCount();
        insertIndex();
        insertArgument();
        insertState();
        deleteFrom();
        deleteCount();
        deleteIndex();
        deleteElement();
        Check.done("TablesEdgesTest");
    }

    // ---- a new object

    private static void beginsEmpty() {
        Doc.says(1, "Begins without tables and views.");
        Lensbench full = Check.with(3, 1, 11, 22);
        full.open(0);
        full.putBack();
        full.open(0);
        Lensbench x = new Lensbench();
        for (int n = -1; n <= 11; n++) {
            int number = n;
            Check.index("1 of(" + n + ")", () -> x.of(number));
            Check.index("1 insert(" + n + ")", () -> x.insert(number, 0));
            Check.index("1 delete(" + n + ")", () -> x.delete(number, 11));
            Check.index("1 columns(" + n + ")", () -> x.columns(number));
            Check.index("1 key(" + n + ")", () -> x.key(number));
            Check.index("1 rows(" + n + ")", () -> x.rows(number));
            Check.index("1 row(" + n + ")", () -> x.row(number, 0));
            Check.index("1 open(" + n + ")", () -> x.open(number));
            Check.index("1 select(" + n + ")", () -> x.select(number, 0, 0, true));
            Check.index("1 drop(" + n + ")", () -> x.drop(number, 1, 0));
            Check.index("1 join(" + n + ")", () -> x.join(number, number));
        }
        Check.state("1 no draft", () -> x.draftRow(0));
        Check.state("1 nothing to undo", () -> x.undo());
        Check.is("1 the first table", 0, () -> x.table(1, 1));
        Check.is("1 the first view", 0, () -> x.of(0));
        Check.is("1 not the other object's rows", 0, () -> x.rows(0));
        Check.same("1 which keeps them", "11 22", Check.shown(full, 0));
    }

    // ---- table

    private static void tableWithoutRows() {
        Doc.says(2, "Makes a table without rows.");
        Lensbench x = Check.with(3, 1, 11, 22);
        x.table(3, 1);
        x.of(1);
        Check.is("2 no rows", 0, () -> x.rows(1));
        Check.index("2 not one", () -> x.row(1, 0));
        Check.element("2 not those of another table", () -> x.delete(1, 11));
        Check.is("2 no key is taken", 1, () -> x.insert(1, 91));
        Check.same("2 and the other one keeps its rows", "11 22", Check.shown(x, 0));
    }

    private static void tableColumns() {
        Doc.says(2, "- `columns`: 1 to 63: bit c for the column c");
        int power = 1;
        for (int c = 0; c < 6; c++) {
            Lensbench x = new Lensbench();
            int bit = 1 << c;
            int greatest = 9 * power;
            Check.is("2 column " + c, 0, () -> x.table(bit, bit));
            Check.is("2 its row", 1, () -> x.insert(0, greatest));
            Check.argument("2 another column's row", () -> x.insert(0, bit == 1 ? 90 : 9));
            power *= 10;
        }
        Lensbench x = new Lensbench();
        Check.is("2 columns 1", 0, () -> x.table(1, 1));
        Check.is("2 columns 63", 1, () -> x.table(63, 1));
        Check.argument("2 columns 0", () -> x.table(0, 1));
        Check.argument("2 columns 64", () -> x.table(64, 64));
        Check.argument("2 columns -1", () -> x.table(-1, 1));
    }

    private static void tableKey() {
        Doc.says(2, "- `key`: some of the columns, one at least");
        int columns = 0b101010;
        for (int k = -1; k <= 64; k++) {
            Lensbench x = new Lensbench();
            int key = k;
            if (key > 0 && (key | columns) == columns) {
                Check.is("2 key " + key, 0, () -> x.table(columns, key));
                Check.is("2 it is kept", key, () -> x.key(x.of(0)));
            } else {
                Check.argument("2 key " + key, () -> x.table(columns, key));
                Check.index("2 no table with key " + key, () -> x.of(0));
            }
        }
    }

    private static void tableNumber() {
        Doc.says(2, "Returns its number.");
        Lensbench x = new Lensbench();
        Check.is("2 number 0", 0, () -> x.table(1, 1));
        Check.argument("2 refused", () -> x.table(1, 0));
        Check.is("2 a refused one has no number", 1, () -> x.table(2, 2));
        Check.is("2 number 2", 2, () -> x.table(4, 4));
        Check.is("2 column of 0", 1, () -> x.columns(x.of(0)));
        Check.is("2 column of 1", 2, () -> x.columns(x.of(1)));
        Check.is("2 column of 2", 4, () -> x.columns(x.of(2)));
    }

    private static void tableArgument() {
        Doc.says(2, "Throws `IllegalArgumentException` if columns is out of range, or key has none, or others");
        Lensbench x = new Lensbench();
        for (int columns : new int[] {0, 64, 65, 127, 128, -1, -63, -64, Integer.MIN_VALUE, Integer.MAX_VALUE}) {
            Check.argument("2 columns " + columns, () -> x.table(columns, 1));
            Check.argument("2 columns and key " + columns, () -> x.table(columns, columns));
            Check.argument("2 key " + columns, () -> x.table(62, columns));
        }
        Check.argument("2 key has none", () -> x.table(63, 0));
        Check.argument("2 key has another", () -> x.table(62, 1));
        Check.argument("2 key has another besides", () -> x.table(62, 63));
        Check.argument("2 key has a column beyond the sixth", () -> x.table(63, 65));
        Check.argument("2 key has the sign's bit", () -> x.table(63, Integer.MIN_VALUE + 1));
    }

    private static void tableState() {
        Doc.says(2, "Throws `IllegalStateException` if there are 3");
        Lensbench x = new Lensbench();
        for (int i = 0; i < 3; i++) {
            Check.argument("2 refused with room", () -> x.table(0, 0));
            x.table(63, 63);
        }
        Check.state("2 a fourth", () -> x.table(63, 63));
        Check.state("2 a fourth again", () -> x.table(1, 1));
        Check.argument("2 columns first", () -> x.table(64, 1));
        Check.argument("2 key first", () -> x.table(63, 0));
        Check.index("2 there are three", () -> x.of(3));
    }

    // ---- insert

    private static void insertInto() {
        Doc.says(3, "Inserts a row into a table.");
        Lensbench x = Check.with(3, 1);
        x.table(3, 1);
        x.table(3, 1);
        x.of(1);
        x.of(2);
        x.insert(2, 22);
        x.insert(0, 11);
        Check.same("3 first table", "11", Check.shown(x, 0));
        Check.same("3 none in the middle one", "", Check.shown(x, 1));
        Check.same("3 last table", "22", Check.shown(x, 2));
        Check.is("3 the same row in another table", 1, () -> x.insert(1, 11));
    }

    private static void insertRow() {
        Doc.says(3, "- `row`: 0 to 999999, with digits above 0 for its columns alone");
        Lensbench wide = Check.with(63, 63);
        Check.is("3 row 0", 1, () -> wide.insert(0, 0));
        Check.is("3 row 999999", 2, () -> wide.insert(0, 999999));
        Check.argument("3 row -1", () -> wide.insert(0, -1));
        Check.argument("3 row 1000000", () -> wide.insert(0, 1000000));
        Lensbench x = Check.with(0b010101, 1);
        Check.is("3 digits in all its columns", 1, () -> x.insert(0, 90909));
        for (int power : new int[] {10, 1000, 100000}) {
            Check.argument("3 digit 1 in another column", () -> x.insert(0, power));
            Check.argument("3 digit 9 in another column, others too", () -> x.insert(0, 10101 + 9 * power));
        }
        Check.is("3 digits 0 in its columns", 2, () -> x.insert(0, 0));
        Check.same("3 none else came", "0 90909", Check.shown(x, 0));
    }

    private static void insertCount() {
        Doc.says(3, "Returns how many rows it has then.");
        Lensbench x = Check.with(3, 3);
        for (int i = 1; i <= 12; i++) {
            int due = i;
            Check.is("3 row " + i, due, () -> x.insert(0, 50 - due));
        }
        x.table(1, 1);
        Check.is("3 of this table alone", 1, () -> x.insert(1, 1));
    }

    private static void insertIndex() {
        Doc.says(3, "Throws `IndexOutOfBoundsException` as told");
        Lensbench x = new Lensbench();
        Check.index("3 table 0 of none", () -> x.insert(0, 1));
        for (int i = 0; i < 3; i++) {
            int next = x.table(1, 1) + 1;
            Check.index("3 table " + next, () -> x.insert(next, 1));
            for (int table : FAR) {
                Check.index("3 table " + table, () -> x.insert(table, 1));
            }
        }
    }

    private static void insertArgument() {
        Doc.says(3, "Throws `IllegalArgumentException` if row is out of range");
        Lensbench x = Check.with(0b111110, 0b000010);
        for (int row : new int[] {-1, -10, -999990, 1, 9, 999999, 1000000, 1000010, 1999990, 10000000, 1 << 20,
            Integer.MIN_VALUE, Integer.MAX_VALUE}) {
            Check.argument("3 row " + row, () -> x.insert(0, row));
        }
        Check.is("3 none came", 0, () -> x.rows(0));
        Check.is("3 the greatest", 1, () -> x.insert(0, 999990));
    }

    private static void insertState() {
        Doc.says(3, "Throws `IllegalStateException` if it has a row with this key, or 12 rows");
        Lensbench x = Check.with(7, 5, 0);
        Check.state("3 the row itself", () -> x.insert(0, 0));
        Check.state("3 its key", () -> x.insert(0, 90));
        Check.is("3 half of the key", 2, () -> x.insert(0, 1));
        Check.is("3 the other half", 3, () -> x.insert(0, 100));
        Check.state("3 the key of the last one", () -> x.insert(0, 110));
        x.delete(0, 100);
        Check.is("3 its key is free", 3, () -> x.insert(0, 110));
        for (int i = 2; i <= 9; i++) {
            x.insert(0, i);
        }
        Check.state("3 eleven rows, the key is taken", () -> x.insert(0, 19));
        Check.is("3 the twelfth", 12, () -> x.insert(0, 999));
        Check.state("3 twelve rows, the key is free", () -> x.insert(0, 888));
        Check.state("3 twelve rows, the key is taken", () -> x.insert(0, 989));
        Check.is("3 still twelve", 12, () -> x.rows(0));
        x.delete(0, 999);
        Check.is("3 room again", 12, () -> x.insert(0, 888));
    }

    // ---- delete

    private static void deleteFrom() {
        Doc.says(4, "Deletes a row of a table.");
        Lensbench x = Check.with(3, 1, 11, 22, 33);
        x.table(3, 1);
        x.of(1);
        x.insert(1, 22);
        x.delete(0, 22);
        Check.same("4 that row alone", "11 33", Check.shown(x, 0));
        Check.same("4 of that table alone", "22", Check.shown(x, 1));
        x.delete(0, 33);
        Check.same("4 the last in order", "11", Check.shown(x, 0));
        x.delete(0, 11);
        Check.same("4 the only one", "", Check.shown(x, 0));
    }

    private static void deleteCount() {
        Doc.says(4, "Returns how many rows it has then.");
        Lensbench x = Check.with(3, 3, 0, 1, 2, 3, 4, 5, 6, 7, 8, 9, 10, 11);
        for (int i = 11; i >= 0; i--) {
            int due = i;
            Check.is("4 row " + i, due, () -> x.delete(0, 11 - due));
        }
    }

    private static void deleteIndex() {
        Doc.says(4, "Throws `IndexOutOfBoundsException` as told");
        Lensbench x = new Lensbench();
        Check.index("4 table 0 of none", () -> x.delete(0, 1));
        for (int i = 0; i < 3; i++) {
            int next = x.table(1, 1) + 1;
            x.insert(i, 1);
            Check.index("4 table " + next, () -> x.delete(next, 1));
            for (int table : FAR) {
                Check.index("4 table " + table, () -> x.delete(table, 1));
            }
        }
    }

    private static void deleteElement() {
        Doc.says(4, "Throws `java` .util.NoSuchElementException if it has no such row");
        Lensbench x = Check.with(3, 1);
        x.table(3, 1);
        x.insert(1, 42);
        Check.element("4 an empty table", () -> x.delete(0, 0));
        Check.element("4 another table's row", () -> x.delete(0, 42));
        x.insert(0, 11);
        Check.element("4 row 0 is not there", () -> x.delete(0, 0));
        Check.element("4 another row with its key", () -> x.delete(0, 21));
        Check.element("4 NONE is no row", () -> x.delete(0, Lensbench.NONE));
        for (int row : new int[] {-11, 111, 1000011, Integer.MIN_VALUE, Integer.MAX_VALUE}) {
            Check.element("4 row " + row, () -> x.delete(0, row));
        }
        Check.same("4 it stays", "11", Check.shown(x, 0));
        x.delete(0, 11);
        Check.element("4 deleted already", () -> x.delete(0, 11));
    }
}
