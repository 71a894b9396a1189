// The edges of promises 13 to 17, a test for each sentence.
public final class DraftsEdgesTest {
    private static final int[] FAR = {-1, Integer.MIN_VALUE, Integer.MAX_VALUE, -32, 32, 64, 256, 1 << 16};

    public static void main(String[] args) {
        open();
        openInPlace();
        openCount();
        openIndex();
        add();
        addRow();
        addCount();
        addState();
        addArgument();
        takeOut();
        takeOutCount();
        takeOutState();
        takeOutElement();
        change();
        changeColumn();
        changeValue();
        changeState();
        changeArgument();
        changeElement();
        draftRow();
        draftRowNone();
        draftRowState();
        draftRowIndex();
        Check.done("DraftsEdgesTest");
    }

    private static Lensbench closed() {
        Lensbench x = Check.with(3, 1, 11);
        x.open(0);
        x.putBack();
        return x;
    }

    // A draft without rows, of a table with the columns 0 and 1.
    private static Lensbench empty() {
        Lensbench x = Check.with(3, 1);
        x.open(0);
        return x;
    }

    private static Lensbench twenty() {
        Lensbench x = empty();
        for (int i = 0; i < 20; i++) {
            x.add(i);
        }
        return x;
    }

    // ---- open

    private static void open() {
        Doc.says(13, "Opens a draft of a view, with the rows that it has, in place of one that is open.");
        Lensbench x = Check.with(3, 1);
        x.select(0, 1, 2, true);
        Check.is("13 of an empty one", 0, () -> x.open(0));
        Check.is("13 it has none", -1, () -> x.draftRow(0));
        x.insert(0, 11);
        x.insert(0, 22);
        Check.is("13 it has none later", -1, () -> x.draftRow(0));
        x.open(1);
        Check.same("13 of a SELECT", "22", Check.draft(x));
        x.delete(0, 22);
        Check.same("13 keeps what the view has not any more", "22", Check.draft(x));
        Check.same("13 the view's rows", "", Check.shown(x, 1));
    }

    private static void openInPlace() {
        Doc.says(13, "in place of one that is open");
        Lensbench x = Check.with(3, 1, 11);
        x.drop(0, 1, 0);
        x.open(0);
        x.add(42);
        x.add(52);
        Check.is("18 a conflict", 1, () -> x.conflict());
        x.open(0);
        Check.same("13 the same view anew", "11", Check.draft(x));
        Check.is("18 none any more", 0, () -> x.conflict());
        x.add(99);
        x.open(1);
        Check.same("13 another view", "1", Check.draft(x));
        Check.argument("14 with its columns", () -> x.add(99));
        x.putBack();
        Check.state("13 the one ahead of it is not open again", () -> x.draftRow(0));
        Check.same("22 and was not put back", "11", Check.shown(x, 0));
    }

    private static void openCount() {
        Doc.says(13, "Returns how many rows it has.");
        Lensbench x = Check.with(3, 3);
        Check.is("13 none", 0, () -> x.open(0));
        for (int i = 1; i <= 12; i++) {
            int due = i;
            x.insert(0, i);
            Check.is("13 rows " + i, due, () -> x.open(0));
        }
        x.add(90);
        Check.is("13 without what was added", 12, () -> x.open(0));
    }

    private static void openIndex() {
        Doc.says(13, "Throws `IndexOutOfBoundsException` as told");
        Lensbench x = new Lensbench();
        x.table(3, 1);
        Check.index("13 view 0 of none", () -> x.open(0));
        for (int i = 1; i <= 10; i++) {
            int next = i;
            x.of(0);
            Check.index("13 view " + i, () -> x.open(next));
        }
        for (int view : FAR) {
            Check.index("13 view " + view, () -> x.open(view));
        }
        Check.state("13 none is open for that", () -> x.draftRow(0));
        Check.is("13 view 9", 0, () -> x.open(9));
    }

    // ---- add

    private static void add() {
        Doc.says(14, "Adds a row to the draft.");
        Lensbench x = empty();
        x.add(22);
        x.add(0);
        x.add(11);
        Check.same("14 in order", "0 11 22", Check.draft(x));
        Check.same("14 not to the view", "", Check.shown(x, 0));
        x.takeOut(11);
        Check.is("14 one that was taken out", 3, () -> x.add(11));
    }

    private static void addRow() {
        Doc.says(14, "- `row`: 0 to 999999, with digits above 0 for the columns of the view alone");
        Lensbench x = Check.with(63, 1);
        x.drop(0, 5, 0);
        x.drop(1, 1, 0);
        x.open(0);
        Check.is("14 row 0", 1, () -> x.add(0));
        Check.is("14 row 999999", 2, () -> x.add(999999));
        Check.argument("14 row -1", () -> x.add(-1));
        Check.argument("14 row 1000000", () -> x.add(1000000));
        x.open(2);
        Check.is("14 all digits of the view", 1, () -> x.add(99909));
        Check.argument("14 a dropped column of the table", () -> x.add(10));
        Check.argument("14 the other one", () -> x.add(100000));
        Check.argument("14 the other one, besides digits of its own", () -> x.add(900001));
        Check.is("14 row 0 of the view", 2, () -> x.add(0));
    }

    private static void addCount() {
        Doc.says(14, "Returns how many rows it has then.");
        Lensbench x = empty();
        for (int i = 1; i <= 20; i++) {
            int due = i;
            Check.is("14 row " + i, due, () -> x.add(99 - due));
        }
    }

    private static void addState() {
        Doc.says(14, "Throws `IllegalStateException` if no draft is open, it has this row, or 20 rows");
        Check.state("14 none opened yet", () -> Check.with(3, 1).add(11));
        Check.state("14 none opened yet, a wrong row", () -> Check.with(3, 1).add(-1));
        Check.state("14 put back", () -> closed().add(22));
        Lensbench x = empty();
        x.add(0);
        Check.state("14 row 0 is there", () -> x.add(0));
        Lensbench full = twenty();
        Check.state("14 twenty, a new row", () -> full.add(20));
        Check.state("14 twenty, one that is there", () -> full.add(19));
        Check.state("14 twenty, a row below 0", () -> full.add(-1));
        Check.state("14 twenty, a row of another column", () -> full.add(100));
        Check.is("14 still twenty", -1, () -> full.draftRow(20));
        full.takeOut(7);
        Check.state("14 nineteen, one that is there", () -> full.add(19));
        Check.is("14 nineteen, a new row", 20, () -> full.add(20));
    }

    private static void addArgument() {
        Doc.says(14, "Throws `IllegalArgumentException` if row is out of range");
        Lensbench x = Check.with(0b011110, 0b000010);
        x.open(0);
        for (int row : new int[] {-1, -10, 1, 9, 11, 100000, 99991, 199990, 1000000, 1000010, 10000000, 1 << 20,
            Integer.MIN_VALUE, Integer.MAX_VALUE}) {
            Check.argument("14 row " + row, () -> x.add(row));
        }
        Check.is("14 none came", -1, () -> x.draftRow(0));
        Check.is("14 the greatest", 1, () -> x.add(99990));
    }

    // ---- takeOut

    private static void takeOut() {
        Doc.says(15, "Takes a row out of the draft.");
        Lensbench x = Check.with(3, 1, 0, 11, 22, 33);
        x.open(0);
        x.takeOut(0);
        Check.same("15 the first", "11 22 33", Check.draft(x));
        x.takeOut(33);
        Check.same("15 the last", "11 22", Check.draft(x));
        x.add(44);
        x.takeOut(44);
        Check.same("15 one that was added", "11 22", Check.draft(x));
        Check.same("15 not out of the view", "0 11 22 33", Check.shown(x, 0));
    }

    private static void takeOutCount() {
        Doc.says(15, "Returns how many rows it has then.");
        Lensbench x = twenty();
        for (int i = 19; i >= 0; i--) {
            int due = i;
            Check.is("15 row " + i, due, () -> x.takeOut(due));
        }
        Check.is("15 none is left", -1, () -> x.draftRow(0));
    }

    private static void takeOutState() {
        Doc.says(15, "Throws `IllegalStateException` if no draft is open");
        Check.state("15 none opened yet", () -> Check.with(3, 1, 11).takeOut(11));
        Check.state("15 none opened yet, no such row", () -> Check.with(3, 1, 11).takeOut(12));
        Check.state("15 put back", () -> closed().takeOut(11));
    }

    private static void takeOutElement() {
        Doc.says(15, "Throws `java` .util.NoSuchElementException if it has no such row");
        Lensbench none = empty();
        Check.element("15 an empty draft", () -> none.takeOut(0));
        Lensbench x = Check.with(3, 1, 11, 22);
        x.open(0);
        x.insert(0, 33);
        Check.element("15 one that came to the view alone", () -> x.takeOut(33));
        Check.element("15 row 0", () -> x.takeOut(0));
        Check.element("15 the same key", () -> x.takeOut(21));
        for (int row : new int[] {-1, -11, 111, 1000011, Integer.MIN_VALUE, Integer.MAX_VALUE}) {
            Check.element("15 row " + row, () -> x.takeOut(row));
        }
        x.takeOut(11);
        Check.element("15 taken out already", () -> x.takeOut(11));
        Check.same("15 the other one stays", "22", Check.draft(x));
    }

    // ---- change

    private static void change() {
        Doc.says(16, "Gives a row of the draft another value.");
        Doc.says(16, "Returns the row then.");
        Lensbench x = Check.with(63, 1, 123456);
        x.open(0);
        Check.is("16 column 0", 123450, () -> x.change(123456, 0, 0));
        Check.is("16 column 5", 923450, () -> x.change(123450, 5, 9));
        Check.is("16 column 5 to 0", 23450, () -> x.change(923450, 5, 0));
        Check.is("16 from 0", 23459, () -> x.change(23450, 0, 9));
        Check.is("16 column 2", 23759, () -> x.change(23459, 2, 7));
        Check.same("16 one row all the time", "23759", Check.draft(x));
        Check.same("16 not in the view", "123456", Check.shown(x, 0));
        x.add(0);
        Check.is("16 behind the other in order then", 900000, () -> x.change(0, 5, 9));
        Check.same("16 in order", "23759 900000", Check.draft(x));
        Lensbench full = twenty();
        Check.is("16 in a draft with 20 rows", 99, () -> full.change(9, 1, 9));
        Check.is("16 the last one then", 99, () -> full.draftRow(19));
    }

    private static void changeColumn() {
        Doc.says(16, "- `column`: a column of the view");
        Lensbench x = Check.with(0b100101, 0b000001, 100101);
        x.drop(0, 5, 0);
        x.open(1);
        Check.is("16 the key's", 102, () -> x.change(101, 0, 2));
        Check.is("16 another", 902, () -> x.change(102, 2, 9));
        Check.argument("16 one that the table has not", () -> x.change(902, 1, 0));
        Check.argument("16 a dropped one", () -> x.change(902, 5, 0));
        Check.argument("16 a dropped one, another value", () -> x.change(902, 5, 1));
        x.open(0);
        Check.is("16 it is one of the table's", 101, () -> x.change(100101, 5, 0));
    }

    private static void changeValue() {
        Doc.says(16, "- `value`: 0 to 9");
        Lensbench x = Check.with(3, 1, 11);
        x.open(0);
        Check.is("16 value 0", 1, () -> x.change(11, 1, 0));
        Check.is("16 value 9", 91, () -> x.change(1, 1, 9));
        Check.argument("16 value -1", () -> x.change(91, 1, -1));
        Check.argument("16 value 10", () -> x.change(91, 1, 10));
        Check.argument("16 value 10 of the key", () -> x.change(91, 0, 10));
    }

    private static void changeState() {
        Doc.says(16, "Throws `IllegalStateException` if no draft is open");
        Check.state("16 none opened yet", () -> Check.with(3, 1, 11).change(11, 1, 2));
        Check.state("16 none opened yet, a wrong column", () -> Check.with(3, 1, 11).change(11, 2, 2));
        Check.state("16 none opened yet, a wrong value", () -> Check.with(3, 1, 11).change(11, 1, 10));
        Check.state("16 none opened yet, no such row", () -> Check.with(3, 1, 11).change(12, 1, 2));
        Check.state("16 put back", () -> closed().change(11, 1, 2));
    }

    private static void changeArgument() {
        Doc.says(16, "Throws `IllegalArgumentException` if column or value is out of range");
        Lensbench x = Check.with(63, 1, 111111);
        x.open(0);
        for (int column : new int[] {-1, 6, 7, 31, 32, 33, 64, -31, -32, Integer.MIN_VALUE, Integer.MAX_VALUE}) {
            Check.argument("16 column " + column, () -> x.change(111111, column, 2));
            Check.argument("16 column " + column + ", no such row", () -> x.change(222222, column, 2));
        }
        for (int value : new int[] {-1, 10, 11, -10, 100, Integer.MIN_VALUE, Integer.MAX_VALUE}) {
            Check.argument("16 value " + value, () -> x.change(111111, 1, value));
            Check.argument("16 value " + value + ", no such row", () -> x.change(222222, 1, value));
        }
        Check.same("16 it stays", "111111", Check.draft(x));
    }

    private static void changeElement() {
        Doc.says(16, "Throws `java` .util.NoSuchElementException if it has no such row,"
                + " or has the new one, and that is another one");
        Lensbench x = Check.with(3, 1, 11, 22);
        x.open(0);
        x.add(12);
        Check.element("16 no such row", () -> x.change(21, 1, 1));
        Check.element("16 no such row, the new one is there", () -> x.change(13, 0, 1));
        Check.element("16 no such row, the same value", () -> x.change(33, 1, 3));
        for (int row : new int[] {-1, -11, 111, 1000011, Integer.MIN_VALUE, Integer.MAX_VALUE}) {
            Check.element("16 row " + row, () -> x.change(row, 1, 2));
        }
        Check.element("16 another one is so already", () -> x.change(11, 0, 2));
        Check.element("16 another one is so already", () -> x.change(22, 1, 1));
        Check.same("16 they stay", "11 12 22", Check.draft(x));
        Check.is("16 it is so itself", 12, () -> x.change(12, 1, 1));
        Check.is("16 it is so itself, by its key", 12, () -> x.change(12, 0, 2));
        Check.same("16 it stays once", "11 12 22", Check.draft(x));
        Lensbench none = empty();
        Check.element("16 an empty draft", () -> none.change(0, 0, 0));
    }

    // ---- draftRow

    private static void draftRow() {
        Doc.says(17, "Returns a row of the draft, in order.");
        Lensbench x = twenty();
        x.change(19, 1, 9);
        for (int i = 0; i < 20; i++) {
            int place = i;
            Check.is("17 place " + i, i == 19 ? 99 : i, () -> x.draftRow(place));
        }
    }

    private static void draftRowNone() {
        Doc.says(17, "Returns the row; NONE if there are not so many.");
        Lensbench none = empty();
        Check.is("17 place 0 of none", Lensbench.NONE, () -> none.draftRow(0));
        none.add(0);
        Check.is("17 row 0 is no NONE", 0, () -> none.draftRow(0));
        Check.is("17 place 1 of one", -1, () -> none.draftRow(1));
        Lensbench x = twenty();
        Check.is("17 place 19 of twenty", 19, () -> x.draftRow(19));
        for (int place : new int[] {20, 21, 32, 1 << 20, Integer.MAX_VALUE}) {
            Check.is("17 place " + place, -1, () -> x.draftRow(place));
        }
        x.takeOut(19);
        Check.is("17 the last place is gone", -1, () -> x.draftRow(19));
    }

    private static void draftRowState() {
        Doc.says(17, "Throws `IllegalStateException` if no draft is open");
        Check.state("17 none opened yet", () -> Check.with(3, 1, 11).draftRow(0));
        Check.state("17 none opened yet, place below 0", () -> Check.with(3, 1, 11).draftRow(-1));
        Check.state("17 put back", () -> closed().draftRow(0));
        Check.state("17 put back, place below 0", () -> closed().draftRow(-1));
    }

    private static void draftRowIndex() {
        Doc.says(17, "Throws `IndexOutOfBoundsException` if place is below 0");
        Lensbench x = twenty();
        Lensbench none = empty();
        for (int place : new int[] {-1, -2, -20, -21, Integer.MIN_VALUE}) {
            Check.index("17 place " + place, () -> x.draftRow(place));
            Check.index("17 place " + place + " of none", () -> none.draftRow(place));
        }
    }
}
