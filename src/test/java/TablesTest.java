// Promises 1 to 4: a new object, table, insert, delete.
public final class TablesTest {
    private static final Class<IllegalArgumentException> ARGUMENT = IllegalArgumentException.class;
    private static final Class<IllegalStateException> STATE = IllegalStateException.class;
    private static final Class<IndexOutOfBoundsException> INDEX = IndexOutOfBoundsException.class;
    private static final Class<java.util.NoSuchElementException> ELEMENT = java.util.NoSuchElementException.class;

    public static void main(String[] args) {
        newObject();
        table();
        tableOrder();
        insert();
        insertFull();
        insertKeyOfTwo();
        delete();
        Check.done("TablesTest");
    }

    private static void newObject() {
        Lensbench x = new Lensbench();
        Check.refuses("1 of(0) without tables", INDEX, () -> x.of(0));
        Check.refuses("1 rows(0) without views", INDEX, () -> x.rows(0));
        Check.refuses("1 insert(0) without tables", INDEX, () -> x.insert(0, 0));
        Check.refuses("1 delete(0) without tables", INDEX, () -> x.delete(0, 0));
        Check.refuses("1 open(0) without views", INDEX, () -> x.open(0));
        Check.refuses("1 no draft", STATE, () -> x.conflict());
        Check.refuses("1 nothing to undo", STATE, () -> x.undo());
        Check.is("1 NONE", -1, () -> Lensbench.NONE);
    }

    private static void table() {
        Lensbench x = new Lensbench();
        for (int columns : new int[] {0, -1, 64, 65, Integer.MIN_VALUE, Integer.MAX_VALUE}) {
            Check.refuses("2 columns " + columns, ARGUMENT, () -> x.table(columns, 1));
        }
        for (int key : new int[] {0, 2, 7, 64, -1, Integer.MIN_VALUE}) {
            Check.refuses("2 key " + key, ARGUMENT, () -> x.table(5, key));
        }
        Check.is("2 first", 0, () -> x.table(1, 1));
        Check.is("2 second", 1, () -> x.table(63, 63));
        Check.is("2 third", 2, () -> x.table(63, 32));
        Check.is("2 made without rows", 0, () -> x.rows(x.of(2)));
        Check.is("2 its columns", 63, () -> x.columns(0));
        Check.is("2 its key", 32, () -> x.key(0));
    }

    private static void tableOrder() {
        Lensbench x = new Lensbench();
        x.table(1, 1);
        x.table(1, 1);
        x.table(1, 1);
        Check.refuses("2 a fourth", STATE, () -> x.table(1, 1));
        Check.refuses("2 a fourth with wrong columns", ARGUMENT, () -> x.table(0, 1));
        Check.refuses("2 a fourth with a wrong key", ARGUMENT, () -> x.table(1, 2));
        Check.refuses("2 there is no fourth", INDEX, () -> x.of(3));
    }

    private static void insert() {
        Lensbench x = Check.with(0b101, 0b100);
        Check.is("3 first", 1, () -> x.insert(0, 307));
        Check.is("3 row 0", 2, () -> x.insert(0, 0));
        Check.is("3 row 900", 3, () -> x.insert(0, 909));
        Check.refuses("3 the same row", STATE, () -> x.insert(0, 307));
        Check.refuses("3 another row with its key", STATE, () -> x.insert(0, 301));
        for (int row : new int[] {10, 417, 1000, 1000000, 1000100, -1, -100, Integer.MIN_VALUE, Integer.MAX_VALUE}) {
            Check.refuses("3 row " + row, ARGUMENT, () -> x.insert(0, row));
        }
        Check.refuses("3 no such table ahead of a wrong row", INDEX, () -> x.insert(1, -1));
        Check.refuses("3 table -1", INDEX, () -> x.insert(-1, 0));
        Check.refuses("3 table 3", INDEX, () -> x.insert(3, 0));
        Check.same("3 rows", "0 307 909", Check.shown(x, 0));
        Lensbench wide = Check.with(63, 1);
        Check.is("3 greatest row", 1, () -> wide.insert(0, 999999));
    }

    private static void insertFull() {
        Lensbench x = Check.with(3, 3, 0, 1, 2, 3, 4, 5, 6, 7, 8, 9, 10);
        Check.is("3 twelfth", 12, () -> x.insert(0, 11));
        Check.refuses("3 thirteenth", STATE, () -> x.insert(0, 12));
        Check.refuses("3 wrong row ahead of a full table", ARGUMENT, () -> x.insert(0, 100));
        Check.is("3 delete in a full table", 11, () -> x.delete(0, 0));
        Check.is("3 room again", 12, () -> x.insert(0, 12));
    }

    private static void insertKeyOfTwo() {
        Lensbench x = Check.with(7, 5, 0);
        Check.is("3 one key column alike", 2, () -> x.insert(0, 100));
        Check.is("3 the other one alike", 3, () -> x.insert(0, 1));
        Check.refuses("3 both alike", STATE, () -> x.insert(0, 11));
    }

    private static void delete() {
        Lensbench x = Check.with(3, 1, 11, 22, 33);
        Check.is("4 middle one", 2, () -> x.delete(0, 22));
        Check.refuses("4 it is gone", ELEMENT, () -> x.delete(0, 22));
        Check.refuses("4 same key, another row", ELEMENT, () -> x.delete(0, 21));
        Check.refuses("4 row out of range", ELEMENT, () -> x.delete(0, -1));
        Check.refuses("4 no such table", INDEX, () -> x.delete(1, 11));
        Check.refuses("4 table -1", INDEX, () -> x.delete(-1, 11));
        Check.same("4 rows", "11 33", Check.shown(x, 0));
        Check.is("4 first", 1, () -> x.delete(0, 11));
        Check.is("4 last", 0, () -> x.delete(0, 33));
        Check.is("4 key is free again", 1, () -> x.insert(0, 21));
    }
}
