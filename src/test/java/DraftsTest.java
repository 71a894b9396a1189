// Promises 13 to 17: open, add, takeOut, change, draftRow.
public final class DraftsTest {
    private static final Class<IllegalArgumentException> ARGUMENT = IllegalArgumentException.class;
    private static final Class<IllegalStateException> STATE = IllegalStateException.class;
    private static final Class<IndexOutOfBoundsException> INDEX = IndexOutOfBoundsException.class;
    private static final Class<java.util.NoSuchElementException> ELEMENT = java.util.NoSuchElementException.class;

    public static void main(String[] args) {
        nothingOpen();
        open();
        openInPlace();
        add();
        twentyRows();
        takeOut();
        change();
        draftRow();
        Check.done("DraftsTest");
    }

    private static void nothingOpen() {
        Lensbench x = Check.with(3, 1, 11);
        Check.refuses("14", STATE, () -> x.add(-1));
        Check.refuses("15", STATE, () -> x.takeOut(11));
        Check.refuses("16", STATE, () -> x.change(11, -1, -1));
        Check.refuses("17", STATE, () -> x.draftRow(-1));
        Check.refuses("18", STATE, () -> x.conflict());
        Check.refuses("19", STATE, () -> x.conflictRow(2));
        Check.refuses("20", STATE, () -> x.changes());
        Check.refuses("21", STATE, () -> x.fewest());
        Check.refuses("22", STATE, () -> x.putBack());
    }

    private static void open() {
        Lensbench x = Check.with(3, 1, 11, 22);
        Check.is("13 rows", 2, () -> x.open(0));
        Check.same("13 draft", "11 22", Check.draft(x));
        x.insert(0, 33);
        x.delete(0, 11);
        Check.same("13 keeps its rows when the table changes", "11 22", Check.draft(x));
        Check.is("13 opened again", 2, () -> x.open(0));
        Check.same("13 rows as they are then", "22 33", Check.draft(x));
    }

    private static void openInPlace() {
        Lensbench x = Check.with(3, 1, 11, 22);
        x.select(0, 1, 2, true);
        x.open(0);
        Check.refuses("13 no such view", INDEX, () -> x.open(2));
        Check.refuses("13 view -1", INDEX, () -> x.open(-1));
        Check.same("13 the open one stays", "11 22", Check.draft(x));
        Check.is("13 another one in its place", 1, () -> x.open(1));
        Check.same("13 its rows", "22", Check.draft(x));
    }

    private static void add() {
        Lensbench x = Check.with(0b110, 0b010, 310);
        x.open(0);
        Check.is("14 first", 2, () -> x.add(0));
        Check.is("14 a key that is there", 3, () -> x.add(410));
        Check.refuses("14 this row", STATE, () -> x.add(310));
        for (int row : new int[] {1, 311, 1000, 1000010, -1, Integer.MAX_VALUE, Integer.MIN_VALUE}) {
            Check.refuses("14 row " + row, ARGUMENT, () -> x.add(row));
        }
        Check.same("14 in order", "0 310 410", Check.draft(x));
        x.drop(0, 2, 0);
        x.open(1);
        Check.refuses("14 a dropped column", ARGUMENT, () -> x.add(320));
        Check.is("14 without it", 2, () -> x.add(20));
    }

    private static void twentyRows() {
        Lensbench x = Check.with(3, 1);
        x.open(0);
        for (int i = 0; i < 19; i++) {
            x.add(i);
        }
        Check.is("14 twentieth", 20, () -> x.add(99));
        Check.refuses("14 one more", STATE, () -> x.add(98));
        Check.refuses("14 20 rows ahead of a wrong row", STATE, () -> x.add(-1));
        Check.is("14 place 19", 99, () -> x.draftRow(19));
        Check.is("14 place 20", -1, () -> x.draftRow(20));
        Check.is("15 room again", 19, () -> x.takeOut(0));
        Check.refuses("14 wrong row where there is room", ARGUMENT, () -> x.add(100));
        Check.is("14 twentieth again", 20, () -> x.add(98));
    }

    private static void takeOut() {
        Lensbench x = Check.with(3, 1, 11, 22, 33);
        x.open(0);
        Check.is("15 middle one", 2, () -> x.takeOut(22));
        Check.refuses("15 it is gone", ELEMENT, () -> x.takeOut(22));
        Check.refuses("15 wrong row", ELEMENT, () -> x.takeOut(-1));
        Check.same("15 rows", "11 33", Check.draft(x));
        Check.same("15 the view stays", "11 22 33", Check.shown(x, 0));
        Check.is("15 another", 1, () -> x.takeOut(11));
        Check.is("15 the last", 0, () -> x.takeOut(33));
    }

    private static void change() {
        Lensbench x = Check.with(0b111, 0b001, 111, 222, 333);
        x.open(0);
        Check.is("16 a value", 191, () -> x.change(111, 1, 9));
        Check.is("16 the same value", 191, () -> x.change(191, 1, 9));
        Check.is("16 to 0", 91, () -> x.change(191, 2, 0));
        Check.is("16 the key", 93, () -> x.change(91, 0, 3));
        Check.same("16 rows", "93 222 333", Check.draft(x));
        Check.is("16", 393, () -> x.change(93, 2, 3));
        Check.refuses("16 the new one is there", ELEMENT, () -> x.change(393, 1, 3));
        Check.refuses("16 no such row", ELEMENT, () -> x.change(111, 1, 1));
        Check.refuses("16 no such row, wrong number", ELEMENT, () -> x.change(-1, 1, 1));
        for (int column : new int[] {3, 5, 6, -1, 32, -32}) {
            Check.refuses("16 column " + column, ARGUMENT, () -> x.change(393, column, 1));
        }
        Check.refuses("16 value 10", ARGUMENT, () -> x.change(393, 1, 10));
        Check.refuses("16 value -1", ARGUMENT, () -> x.change(393, 1, -1));
        Check.refuses("16 wrong value ahead of no such row", ARGUMENT, () -> x.change(111, 1, 10));
        Check.refuses("16 wrong column ahead of no such row", ARGUMENT, () -> x.change(111, 3, 1));
        Check.same("16 rows", "222 333 393", Check.draft(x));
        Check.same("16 the view stays", "111 222 333", Check.shown(x, 0));
    }

    private static void draftRow() {
        Lensbench x = Check.with(3, 1, 33, 22, 11);
        x.open(0);
        Check.is("17 first", 11, () -> x.draftRow(0));
        Check.is("17 last", 33, () -> x.draftRow(2));
        Check.is("17 one behind it", -1, () -> x.draftRow(3));
        Check.is("17 far behind it", -1, () -> x.draftRow(Integer.MAX_VALUE));
        Check.refuses("17 below 0", INDEX, () -> x.draftRow(-1));
        Check.refuses("17 far below 0", INDEX, () -> x.draftRow(Integer.MIN_VALUE));
    }
}
