// The edges of promise 21, a test for each sentence.
public final class FewestEdgesTest {
    public static void main(String[] args) {
        least();
        leastOfAll();
        triedValues();
        triedKeys();
        none();
        askedAgain();
        stateNoDraft();
        stateTables();
        stateColumns();
        stateValue();
        Check.done("FewestEdgesTest");
    }

    private static Lensbench open(int columns, int key, int... rows) {
        Lensbench x = Check.with(columns, key, rows);
        x.open(0);
        return x;
    }

    private static void least() {
        Doc.says(21, "Returns how many rows of the table have to change at least,"
                + " so that the view has the rows of the draft,"
                + " found by trying all tables with values 0 to 2 whose rows have unlike keys.");
        Lensbench none = open(3, 1);
        Check.is("21 an empty table, an empty draft", 0, () -> none.fewest());
        none.add(22);
        Check.is("21 one comes", 1, () -> none.fewest());
        Lensbench x = open(3, 1, 0, 11, 22);
        Check.is("21 nothing to do", 0, () -> x.fewest());
        x.takeOut(0);
        Check.is("21 one goes", 1, () -> x.fewest());
        x.change(11, 0, 0);
        Check.is("21 two go, one comes", 3, () -> x.fewest());
        x.takeOut(10);
        x.takeOut(22);
        Check.is("21 all go", 3, () -> x.fewest());
    }

    private static void leastOfAll() {
        Doc.says(21, "Returns how many rows of the table have to change at least");
        Lensbench x = Check.with(3, 3, 0, 10, 20, 1, 11, 21, 2, 12, 22);
        x.select(0, 0, 2, true);
        x.select(0, 0, 2, false);
        x.open(1);
        Check.is("21 rows that are not selected stay", 0, () -> x.fewest());
        x.takeOut(2);
        x.takeOut(12);
        x.takeOut(22);
        Check.is("21 the selected ones go", 3, () -> x.fewest());
        x.open(2);
        for (int row : new int[] {0, 10, 20, 1, 11, 21}) {
            x.takeOut(row);
        }
        Check.is("21 all but those of one value go", 6, () -> x.fewest());
        x.open(0);
        for (int row : new int[] {0, 10, 20, 1, 11, 21, 2, 12, 22}) {
            x.takeOut(row);
        }
        Check.is("21 all nine go", 9, () -> x.fewest());
        Lensbench y = Check.with(3, 1, 10, 21);
        y.drop(0, 1, 9);
        y.open(1);
        y.add(2);
        Check.is("21 a hidden value within 0 to 2", 1, () -> y.fewest());
        Check.is("20 putting it back is as dear", 1, () -> y.changes());
    }

    private static void triedValues() {
        Doc.says(21, "found by trying all tables with values 0 to 2");
        for (int value = 0; value <= 4; value++) {
            Lensbench x = open(3, 1);
            x.add(value);
            Check.is("21 key " + value, value <= 2 ? 1 : -1, () -> x.fewest());
            Lensbench y = open(3, 1);
            y.add(10 * value);
            Check.is("21 value " + value, value <= 2 ? 1 : -1, () -> y.fewest());
            Lensbench z = Check.with(3, 1, 12);
            z.select(0, 1, value, true);
            z.open(1);
            Check.is("21 a SELECT by " + value, 0, () -> z.fewest());
            z.add(10 * value);
            Check.is("21 a row for it", value <= 2 ? 1 : -1, () -> z.fewest());
        }
    }

    private static void triedKeys() {
        Doc.says(21, "whose rows have unlike keys");
        Lensbench x = open(3, 1);
        x.add(0);
        x.add(1);
        x.add(2);
        Check.is("21 three keys", 3, () -> x.fewest());
        x.add(10);
        Check.is("21 one of them twice", -1, () -> x.fewest());
        Lensbench both = open(3, 3);
        both.add(0);
        both.add(10);
        Check.is("21 unlike in one column of the key", 2, () -> both.fewest());
        Lensbench second = open(3, 2, 22);
        second.add(0);
        second.add(12);
        Check.is("21 key of column 1", 2, () -> second.fewest());
        second.add(11);
        Check.is("21 one of them twice", -1, () -> second.fewest());
        Lensbench hidden = Check.with(3, 1, 0, 11);
        hidden.select(0, 1, 2, true);
        hidden.open(1);
        hidden.add(20);
        hidden.add(21);
        hidden.add(22);
        Check.is("21 what has their keys goes", 5, () -> hidden.fewest());
    }

    private static void none() {
        Doc.says(21, "Returns how many; NONE if no such table does it.");
        Lensbench x = Check.with(3, 1, 0, 11);
        x.select(0, 1, 1, true);
        x.select(0, 1, 1, false);
        x.open(1);
        x.add(22);
        Check.is("21 not selected", Lensbench.NONE, () -> x.fewest());
        x.open(2);
        x.add(12);
        Check.is("21 not selected", -1, () -> x.fewest());
        x.change(12, 1, 3);
        Check.is("21 a value above 2, though selected", -1, () -> x.fewest());
        x.change(32, 1, 2);
        Check.is("21 selected", 1, () -> x.fewest());
        Lensbench many = open(1, 1);
        many.add(0);
        many.add(1);
        many.add(2);
        Check.is("21 all keys of one column", 3, () -> many.fewest());
        many.add(3);
        Check.is("21 one more", -1, () -> many.fewest());
        Lensbench twenty = open(3, 3);
        for (int i = 0; i < 20; i++) {
            twenty.add(i);
        }
        Check.is("21 twenty rows", -1, () -> twenty.fewest());
    }

    private static void askedAgain() {
        Doc.says(21, "so that the view has the rows of the draft");
        Lensbench x = Check.with(3, 1, 0, 11);
        x.table(3, 3);
        x.insert(1, 22);
        x.of(1);
        x.select(1, 0, 1, true);
        x.open(0);
        Check.is("21 the first table", 0, () -> x.fewest());
        x.open(1);
        Check.is("21 the second one", 0, () -> x.fewest());
        x.takeOut(22);
        Check.is("21 it has to go", 1, () -> x.fewest());
        x.open(2);
        Check.is("21 no row of it is seen", 0, () -> x.fewest());
        x.add(1);
        Check.is("21 one comes", 1, () -> x.fewest());
        x.delete(0, 11);
        x.open(0);
        Check.is("21 the first table as it is now", 0, () -> x.fewest());
        x.insert(0, 2);
        Check.is("21 a row that came since has to go", 1, () -> x.fewest());
    }

    private static void stateNoDraft() {
        Doc.says(21, "Throws `IllegalStateException` if no draft is open, its view comes of several tables,"
                + " or its table has more than 2 columns or a value above 2");
        Check.state("21 none opened yet", () -> Check.with(3, 1, 11).fewest());
        Check.state("21 without views", () -> new Lensbench().fewest());
        Lensbench x = open(3, 1, 11);
        x.putBack();
        Check.state("21 put back", () -> x.fewest());
    }

    private static void stateTables() {
        Doc.says(21, "its view comes of several tables");
        Lensbench x = Check.with(3, 1);
        x.table(1, 1);
        x.of(1);
        x.join(0, 1);
        x.select(2, 0, 0, true);
        x.drop(2, 1, 0);
        for (int view = 2; view <= 4; view++) {
            x.open(view);
            Check.state("21 view " + view, () -> x.fewest());
        }
        x.open(1);
        Check.is("21 the right one alone", 0, () -> x.fewest());
    }

    private static void stateColumns() {
        Doc.says(21, "or its table has more than 2 columns");
        for (int columns = 1; columns <= 63; columns++) {
            Lensbench x = open(columns, columns);
            if (Integer.bitCount(columns) <= 2) {
                Check.is("21 columns " + columns, 0, () -> x.fewest());
            } else {
                Check.state("21 columns " + columns, () -> x.fewest());
            }
        }
        Lensbench x = Check.with(7, 1, 111);
        x.drop(0, 1, 0);
        x.drop(1, 2, 0);
        x.open(2);
        Check.state("21 its view has one", () -> x.fewest());
    }

    private static void stateValue() {
        Doc.says(21, "or a value above 2");
        Lensbench x = Check.with(0b100100, 0b000100, 200200);
        x.drop(0, 5, 0);
        x.select(0, 2, 3, false);
        Check.is("13 rows", 1, () -> x.open(0));
        Check.is("21 values 2", 0, () -> x.fewest());
        for (int row : new int[] {300000, 300, 900000, 900, 200300, 300100}) {
            x.insert(0, row);
            for (int view = 0; view <= 2; view++) {
                x.open(view);
                Check.state("21 row " + row + " in view " + view, () -> x.fewest());
            }
            x.delete(0, row);
            x.open(1);
            Check.is("21 without row " + row, 0, () -> x.fewest());
        }
        for (int c = 0, power = 1; c < 6; c++, power *= 10) {
            Lensbench y = open(1 << c, 1 << c, 2 * power);
            Check.is("21 value 2 in column " + c, 0, () -> y.fewest());
            y.insert(0, 3 * power);
            Check.state("21 value 3 in column " + c, () -> y.fewest());
        }
        x.open(0);
        x.insert(0, 300);
        Check.state("21 it came since the draft was opened", () -> x.fewest());
        x.table(3, 1);
        x.insert(1, 11);
        x.of(1);
        x.open(3);
        Check.is("21 in another table", 0, () -> x.fewest());
    }
}
