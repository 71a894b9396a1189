// The edges of promises 5 to 12, a test for each sentence.
public final class ViewsEdgesTest {
    private static final int[] FAR = {-1, Integer.MIN_VALUE, Integer.MAX_VALUE, -32, 32, 64, 256, 1 << 16};
    private static final int[] NO_VALUES = {-1, 10, 11, 19, -10, 100, Integer.MIN_VALUE, Integer.MAX_VALUE};
    // Columns whose shift begins again at columns 0 to 5, and those beyond the sixth.
    private static final int[] NO_COLUMNS = {-1, 6, 7, 31, 32, 33, 34, 37, 64, -31, -32, -64, Integer.MIN_VALUE,
        Integer.MAX_VALUE};

    public static void main(String[] args) {
        of();
        ofNumber();
        ofIndex();
        ofState();
        select();
        selectColumn();
        selectValue();
        selectIsSame();
        selectNumber();
        selectIndex();
        selectArgument();
        selectState();
        drop();
        dropColumn();
        dropValue();
        dropNumber();
        dropIndex();
        dropArgument();
        dropState();
        join();
        joinLeft();
        joinRight();
        joinNumber();
        joinIndex();
        joinArgument();
        joinArgumentOfKey();
        joinState();
        columns();
        key();
        rows();
        row();
        Check.done("ViewsEdgesTest");
    }

    // A table with columns 0 to 2 and key 0, one with columns 1, 3 and key 1, a TABLE of each, and
    // TABLEs of the second until there are ten views.
    private static Lensbench tenViews() {
        Lensbench x = Check.with(7, 1, 111, 222);
        x.table(0b1010, 0b0010);
        for (int i = 1; i < 10; i++) {
            x.of(1);
        }
        return x;
    }

    // ---- of

    private static void of() {
        Doc.says(5, "Makes a TABLE.");
        Lensbench x = Check.with(7, 3, 111, 222);
        Check.same("5 rows", "111 222", Check.shown(x, 0));
        Check.is("5 columns", 7, () -> x.columns(0));
        Check.is("5 key", 3, () -> x.key(0));
        x.table(8, 8);
        x.of(1);
        Check.is("5 of an empty table", 0, () -> x.rows(1));
    }

    private static void ofNumber() {
        Doc.says(5, "Returns the number of the view.");
        Lensbench x = new Lensbench();
        x.table(1, 1);
        for (int i = 0; i < 10; i++) {
            int due = i;
            Check.index("5 a refused one has no number", () -> x.of(1));
            Check.is("5 number " + i, due, () -> x.of(0));
        }
    }

    private static void ofIndex() {
        Doc.says(5, "Throws `IndexOutOfBoundsException` as told");
        Lensbench x = new Lensbench();
        Check.index("5 table 0 of none", () -> x.of(0));
        for (int i = 0; i < 3; i++) {
            int next = x.table(1, 1) + 1;
            Check.index("5 table " + next, () -> x.of(next));
            for (int table : FAR) {
                Check.index("5 table " + table, () -> x.of(table));
            }
        }
    }

    private static void ofState() {
        Doc.says(5, "Throws `IllegalStateException` if there are 10 views");
        Lensbench x = new Lensbench();
        x.table(1, 1);
        for (int i = 0; i < 10; i++) {
            x.of(0);
        }
        Check.state("5 an eleventh", () -> x.of(0));
        Check.state("5 once more", () -> x.of(0));
        Check.index("5 no such table is told first", () -> x.of(1));
        Check.index("5 there are ten", () -> x.rows(10));
        Check.is("5 the tenth", 0, () -> x.rows(9));
    }

    // ---- select

    private static void select() {
        Doc.says(6, "Makes a SELECT.");
        Lensbench x = Check.with(7, 1, 111, 212, 123);
        x.select(0, 1, 1, true);
        Check.same("6 rows", "111 212", Check.shown(x, 1));
        x.select(1, 2, 1, false);
        Check.same("6 of a SELECT", "212", Check.shown(x, 2));
        x.select(0, 1, 1, true);
        Check.same("6 the same again", "111 212", Check.shown(x, 3));
    }

    private static void selectColumn() {
        Doc.says(6, "- `column`: one of its columns");
        Lensbench x = Check.with(0b100001, 1, 900001, 2);
        Check.is("6 column 0", 1, () -> x.select(0, 0, 1, true));
        Check.is("6 column 5", 2, () -> x.select(0, 5, 9, true));
        Check.same("6 by column 0", "900001", Check.shown(x, 1));
        Check.same("6 by column 5", "900001", Check.shown(x, 2));
        for (int c = 1; c <= 4; c++) {
            int column = c;
            Check.argument("6 column " + c, () -> x.select(0, column, 0, true));
        }
        x.drop(0, 5, 0);
        Check.argument("6 a dropped one", () -> x.select(3, 5, 0, true));
        Check.is("6 one that is left", 4, () -> x.select(3, 0, 2, true));
    }

    private static void selectValue() {
        Doc.says(6, "- `value`: 0 to 9");
        Lensbench x = Check.with(3, 1, 1, 92);
        Check.is("6 value 0", 1, () -> x.select(0, 1, 0, true));
        Check.is("6 value 9", 2, () -> x.select(0, 1, 9, true));
        Check.same("6 with 0", "1", Check.shown(x, 1));
        Check.same("6 with 9", "92", Check.shown(x, 2));
        Check.argument("6 value -1", () -> x.select(0, 1, -1, true));
        Check.argument("6 value 10", () -> x.select(0, 1, 10, true));
    }

    private static void selectIsSame() {
        Doc.says(6, "- `isSame`: whether rows with the value are selected, otherwise all others");
        Lensbench x = Check.with(3, 1, 1, 12, 13, 94);
        for (int value = 0; value <= 9; value++) {
            Lensbench y = Check.with(3, 1, 1, 12, 13, 94);
            y.select(0, 1, value, true);
            y.select(0, 1, value, false);
            int same = value == 1 ? 2 : value == 0 || value == 9 ? 1 : 0;
            Check.is("6 rows with " + value, same, () -> y.rows(1));
            Check.is("6 rows without " + value, 4 - same, () -> y.rows(2));
        }
        x.select(0, 1, 1, true);
        x.select(1, 1, 1, false);
        Check.same("6 neither with it nor without it", "", Check.shown(x, 2));
    }

    private static void selectNumber() {
        Doc.says(6, "Returns the number of the view.");
        Lensbench x = Check.with(1, 1, 1);
        for (int i = 1; i < 10; i++) {
            int due = i;
            Check.argument("6 a refused one has no number", () -> x.select(0, 1, 1, true));
            Check.is("6 number " + i, due, () -> x.select(due - 1, 0, 1, true));
        }
        Check.same("6 a SELECT of nine SELECTs", "1", Check.shown(x, 9));
    }

    private static void selectIndex() {
        Doc.says(6, "Throws `IndexOutOfBoundsException` as told, of the view");
        Lensbench x = new Lensbench();
        x.table(1, 1);
        Check.index("6 view 0 of none", () -> x.select(0, 0, 0, true));
        x.of(0);
        Check.index("6 view 1 of one", () -> x.select(1, 0, 0, true));
        Check.index("6 ahead of a wrong column and value", () -> x.select(1, 6, 10, true));
        for (int view : FAR) {
            Check.index("6 view " + view, () -> x.select(view, 0, 0, true));
        }
        Lensbench full = tenViews();
        Check.index("6 view 10 of ten", () -> full.select(10, 0, 0, true));
    }

    private static void selectArgument() {
        Doc.says(6, "Throws `IllegalArgumentException` if column or value is out of range");
        Lensbench x = Check.with(63, 1, 1);
        for (int column : NO_COLUMNS) {
            Check.argument("6 column " + column, () -> x.select(0, column, 0, true));
            Check.argument("6 column " + column, () -> x.select(0, column, 0, false));
        }
        for (int value : NO_VALUES) {
            Check.argument("6 value " + value, () -> x.select(0, 0, value, true));
            Check.argument("6 value " + value, () -> x.select(0, 5, value, false));
        }
        Lensbench full = tenViews();
        Check.argument("6 a wrong column ahead of ten views", () -> full.select(0, 3, 0, true));
        Check.argument("6 a wrong value ahead of ten views", () -> full.select(0, 0, 10, true));
    }

    private static void selectState() {
        Doc.says(6, "Throws `IllegalStateException` if there are 10 views");
        Lensbench x = Check.with(3, 1, 11);
        for (int i = 1; i < 10; i++) {
            x.select(0, 0, 1, true);
        }
        Check.state("6 an eleventh", () -> x.select(0, 0, 1, true));
        Check.state("6 of the tenth", () -> x.select(9, 1, 9, false));
        Check.index("6 there are ten", () -> x.rows(10));
    }

    // ---- drop

    private static void drop() {
        Doc.says(7, "Makes a DROP.");
        Lensbench x = Check.with(7, 1, 111, 222);
        x.drop(0, 1, 5);
        Check.same("7 rows", "101 202", Check.shown(x, 1));
        x.drop(1, 2, 5);
        Check.same("7 of a DROP", "1 2", Check.shown(x, 2));
        x.drop(0, 1, 6);
        Check.same("7 the same column of the view again", "101 202", Check.shown(x, 3));
        Check.same("7 the view itself stays", "111 222", Check.shown(x, 0));
    }

    private static void dropColumn() {
        Doc.says(7, "- `column`: one of its columns that is not in its key");
        Lensbench x = Check.with(0b110011, 0b010001, 910091);
        Check.argument("7 column 0 is in the key", () -> x.drop(0, 0, 0));
        Check.argument("7 column 4 is in the key", () -> x.drop(0, 4, 0));
        Check.argument("7 it has no column 2", () -> x.drop(0, 2, 0));
        Check.argument("7 it has no column 3", () -> x.drop(0, 3, 0));
        Check.is("7 column 5", 1, () -> x.drop(0, 5, 0));
        Check.is("7 column 1", 2, () -> x.drop(1, 1, 0));
        Check.same("7 the key is left", "10001", Check.shown(x, 2));
        for (int c = 0; c < 6; c++) {
            int column = c;
            Check.argument("7 no column is left to drop", () -> x.drop(2, column, 0));
        }
        x.table(0b10, 0b10);
        x.of(1);
        x.join(0, 3);
        Check.is("7 in the key of the right one alone", 5, () -> x.drop(4, 1, 0));
    }

    private static void dropValue() {
        Doc.says(7, "- `value`: 0 to 9, the default");
        Lensbench x = Check.with(3, 1);
        Check.is("7 default 0", 1, () -> x.drop(0, 1, 0));
        Check.is("7 default 9", 2, () -> x.drop(0, 1, 9));
        Check.argument("7 default -1", () -> x.drop(0, 1, -1));
        Check.argument("7 default 10", () -> x.drop(0, 1, 10));
        x.open(1);
        x.add(5);
        x.putBack();
        Check.same("7 it has 0", "5", Check.shown(x, 0));
        x.open(2);
        x.add(6);
        x.putBack();
        Check.same("7 it has 9", "5 96", Check.shown(x, 0));
    }

    private static void dropNumber() {
        Doc.says(7, "Returns the number of the view.");
        Lensbench x = Check.with(63, 1, 999991);
        for (int i = 1; i < 6; i++) {
            int due = i;
            Check.argument("7 a refused one has no number", () -> x.drop(0, 0, 0));
            Check.is("7 number " + i, due, () -> x.drop(due - 1, due, 0));
        }
        for (int i = 6; i < 10; i++) {
            int due = i;
            Check.is("7 number " + i, due, () -> x.drop(0, 1, 0));
        }
        Check.same("7 all but the key dropped", "1", Check.shown(x, 5));
    }

    private static void dropIndex() {
        Doc.says(7, "Throws `IndexOutOfBoundsException` as told, of the view");
        Lensbench x = new Lensbench();
        x.table(3, 1);
        Check.index("7 view 0 of none", () -> x.drop(0, 1, 0));
        x.of(0);
        Check.index("7 view 1 of one", () -> x.drop(1, 1, 0));
        Check.index("7 ahead of a wrong column and value", () -> x.drop(1, 6, 10));
        for (int view : FAR) {
            Check.index("7 view " + view, () -> x.drop(view, 1, 0));
        }
        Lensbench full = tenViews();
        Check.index("7 view 10 of ten", () -> full.drop(10, 1, 0));
    }

    private static void dropArgument() {
        Doc.says(7, "Throws `IllegalArgumentException` if column or value is out of range");
        Lensbench x = Check.with(63, 1, 1);
        for (int column : NO_COLUMNS) {
            Check.argument("7 column " + column, () -> x.drop(0, column, 0));
        }
        for (int value : NO_VALUES) {
            Check.argument("7 value " + value, () -> x.drop(0, 1, value));
            Check.argument("7 value " + value, () -> x.drop(0, 5, value));
        }
        Lensbench full = tenViews();
        Check.argument("7 a key's column ahead of ten views", () -> full.drop(0, 0, 0));
        Check.argument("7 a wrong value ahead of ten views", () -> full.drop(0, 1, 10));
    }

    private static void dropState() {
        Doc.says(7, "Throws `IllegalStateException` if there are 10 views");
        Lensbench x = tenViews();
        Check.state("7 an eleventh", () -> x.drop(0, 1, 0));
        Check.state("7 of the tenth", () -> x.drop(9, 3, 9));
        Check.index("7 there are ten", () -> x.rows(10));
    }

    // ---- join

    private static Lensbench twoTables() {
        Lensbench x = Check.with(0b011, 0b001, 11, 22, 33);
        x.table(0b110, 0b010);
        x.insert(1, 710);
        x.insert(1, 820);
        x.of(1);
        return x;
    }

    private static void join() {
        Doc.says(8, "Makes a JOIN.");
        Lensbench x = twoTables();
        x.join(0, 1);
        Check.same("8 rows", "711 822", Check.shown(x, 2));
        x.join(0, 1);
        Check.same("8 the same again", "711 822", Check.shown(x, 3));
    }

    private static void joinLeft() {
        Doc.says(8, "- `view`: the left one");
        Lensbench x = twoTables();
        x.join(0, 1);
        Check.is("8 its key is the left one's", 1, () -> x.key(2));
        Check.argument("8 the right one as the left one", () -> x.join(1, 0));
    }

    private static void joinRight() {
        Doc.says(8, "- `other`: the right one");
        Lensbench x = Check.with(3, 3, 11);
        x.table(3, 1);
        x.insert(1, 21);
        x.insert(1, 12);
        x.of(1);
        x.join(0, 1);
        x.join(1, 0);
        Check.is("8 key of the left one", 3, () -> x.key(2));
        Check.is("8 key of the left one, the other way", 1, () -> x.key(3));
        x.insert(1, 14);
        x.insert(0, 14);
        Check.same("8 same columns: what both have", "14", Check.shown(x, 2));
        Check.same("8 same columns, the other way", "14", Check.shown(x, 3));
    }

    private static void joinNumber() {
        Doc.says(8, "Returns the number of the view.");
        Lensbench x = twoTables();
        for (int i = 2; i < 10; i++) {
            int due = i;
            Check.argument("8 a refused one has no number", () -> x.join(1, 0));
            Check.is("8 number " + i, due, () -> x.join(0, 1));
        }
    }

    private static void joinIndex() {
        Doc.says(8, "Throws `IndexOutOfBoundsException` as told, of either view");
        Lensbench none = new Lensbench();
        Check.index("8 without views", () -> none.join(0, 0));
        Lensbench x = twoTables();
        for (int view : FAR) {
            Check.index("8 left " + view, () -> x.join(view, 1));
            Check.index("8 right " + view, () -> x.join(0, view));
            Check.index("8 both " + view, () -> x.join(view, view));
        }
        Check.index("8 left one behind the last", () -> x.join(2, 1));
        Check.index("8 right one behind the last", () -> x.join(0, 2));
        Lensbench full = tenViews();
        Check.index("8 right view 10 of ten", () -> full.join(0, 10));
        Check.index("8 left view 10 of ten", () -> full.join(10, 1));
    }

    private static void joinArgument() {
        Doc.says(8, "Throws `IllegalArgumentException` if both come of one table,"
                + " or the key of the right one has other columns than the left one");
        Lensbench x = twoTables();
        x.of(0);
        x.select(0, 0, 0, false);
        x.join(0, 1);
        Check.argument("8 with itself", () -> x.join(0, 0));
        Check.argument("8 two TABLEs of one table", () -> x.join(0, 2));
        Check.argument("8 with what is made of it", () -> x.join(0, 3));
        Check.argument("8 a JOIN with its left one", () -> x.join(4, 0));
        Check.argument("8 a JOIN with its right one", () -> x.join(4, 1));
        Check.argument("8 its left one with a JOIN", () -> x.join(0, 4));
        Check.argument("8 key of the right one is not there", () -> x.join(1, 0));
        x.table(0b11000, 0b11000);
        x.of(2);
        Check.argument("8 no column in common", () -> x.join(0, 5));
        Check.is("8 nothing was made", 6, () -> x.of(0));
    }

    private static void joinArgumentOfKey() {
        Doc.says(8, "or the key of the right one has other columns than the left one");
        Lensbench x = Check.with(0b01011, 0b00001);
        x.table(0b11010, 0b11000);
        x.of(1);
        Check.argument("8 half of the right key is there", () -> x.join(0, 1));
        x.drop(0, 3, 0);
        x.table(0b01000, 0b01000);
        x.of(2);
        Check.is("8 the key is there", 4, () -> x.join(0, 3));
        Check.argument("8 it has been dropped", () -> x.join(2, 3));
    }

    private static void joinState() {
        Doc.says(8, "Throws `IllegalStateException` if there are 10 views");
        Lensbench x = tenViews();
        Check.state("8 an eleventh", () -> x.join(0, 1));
        Check.state("8 with the tenth", () -> x.join(0, 9));
        Check.argument("8 of one table is told first", () -> x.join(8, 9));
        Check.argument("8 a wrong key is told first", () -> x.join(9, 0));
        Check.index("8 there are ten", () -> x.rows(10));
    }

    // ---- what a view tells

    private static void columns() {
        Doc.says(9, "Returns the columns of a view.");
        Doc.says(9, "Returns the set: bit c for the column c.");
        Doc.says(9, "Throws `IndexOutOfBoundsException` as told");
        Lensbench x = Check.with(63, 1);
        x.table(0b100000, 0b100000);
        x.of(1);
        Check.is("9 all", 63, () -> x.columns(0));
        Check.is("9 column 5 alone", 32, () -> x.columns(1));
        x.drop(0, 5, 0);
        x.drop(2, 1, 0);
        Check.is("9 a DROP has one less", 31, () -> x.columns(2));
        Check.is("9 of a DROP two less", 29, () -> x.columns(3));
        x.select(3, 0, 0, true);
        Check.is("9 a SELECT has those", 29, () -> x.columns(4));
        x.join(0, 1);
        Check.is("9 a JOIN has both", 63, () -> x.columns(5));
        Check.index("9 one behind the last", () -> x.columns(6));
        for (int view : FAR) {
            Check.index("9 view " + view, () -> x.columns(view));
        }
        Lensbench full = tenViews();
        Check.is("9 view 9", 0b1010, () -> full.columns(9));
        Check.index("9 view 10", () -> full.columns(10));
    }

    private static void key() {
        Doc.says(10, "Returns the key of a view.");
        Doc.says(10, "Returns the set: bit c for the column c.");
        Doc.says(10, "Throws `IndexOutOfBoundsException` as told");
        Lensbench x = Check.with(63, 0b100001);
        x.table(63, 63);
        x.of(1);
        x.drop(0, 1, 0);
        x.select(2, 0, 0, true);
        Check.is("10 of a TABLE", 33, () -> x.key(0));
        Check.is("10 all columns", 63, () -> x.key(1));
        Check.is("10 a DROP keeps it", 33, () -> x.key(2));
        Check.is("10 a SELECT keeps it", 33, () -> x.key(3));
        x.join(0, 1);
        x.join(1, 0);
        Check.is("10 a JOIN has the left one's", 33, () -> x.key(4));
        Check.is("10 a JOIN the other way", 63, () -> x.key(5));
        Check.index("10 one behind the last", () -> x.key(6));
        for (int view : FAR) {
            Check.index("10 view " + view, () -> x.key(view));
        }
        Lensbench full = tenViews();
        Check.is("10 view 9", 0b0010, () -> full.key(9));
        Check.index("10 view 10", () -> full.key(10));
    }

    private static void rows() {
        Doc.says(11, "Returns how many rows a view has.");
        Doc.says(11, "Throws `IndexOutOfBoundsException` as told");
        Lensbench x = Check.with(3, 3);
        x.select(0, 1, 0, true);
        x.select(0, 1, 0, false);
        Check.is("11 an empty one", 0, () -> x.rows(0));
        for (int i = 0; i < 12; i++) {
            x.insert(0, i);
        }
        Check.is("11 a full one", 12, () -> x.rows(0));
        Check.is("11 a part", 10, () -> x.rows(1));
        Check.is("11 the others", 2, () -> x.rows(2));
        Check.index("11 one behind the last", () -> x.rows(3));
        for (int view : FAR) {
            Check.index("11 view " + view, () -> x.rows(view));
        }
        Lensbench full = tenViews();
        Check.is("11 view 9", 0, () -> full.rows(9));
        Check.index("11 view 10", () -> full.rows(10));
    }

    private static void row() {
        Doc.says(12, "Returns a row of a view, in order.");
        Doc.says(12, "Throws `IndexOutOfBoundsException` as told, of the view or the place");
        Lensbench x = Check.with(3, 3);
        Check.index("12 place 0 of none", () -> x.row(0, 0));
        for (int i = 11; i >= 0; i--) {
            x.insert(0, i * 8);
        }
        for (int i = 0; i < 12; i++) {
            int place = i;
            Check.is("12 place " + i, place * 8, () -> x.row(0, place));
        }
        Check.index("12 place 12 of twelve", () -> x.row(0, 12));
        for (int far : FAR) {
            Check.index("12 place " + far, () -> x.row(0, far));
            Check.index("12 view " + far, () -> x.row(far, 0));
            Check.index("12 both " + far, () -> x.row(far, far));
        }
        Check.index("12 one view behind the last", () -> x.row(1, 0));
        x.delete(0, 88);
        Check.index("12 the last place is gone", () -> x.row(0, 11));
        Check.is("12 the one ahead of it stays", 80, () -> x.row(0, 10));
    }
}
