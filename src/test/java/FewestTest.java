// Promise 21: fewest.
public final class FewestTest {
    private static final Class<IllegalStateException> STATE = IllegalStateException.class;

    public static void main(String[] args) {
        table();
        oneColumn();
        bothColumnsAreKey();
        selectTakesAKey();
        drop();
        fewerThanPutBack();
        refused();
        farColumns();
        Check.done("FewestTest");
    }

    private static void table() {
        Lensbench x = Check.with(3, 1, 11, 22);
        x.open(0);
        Check.is("21 nothing to do", 0, () -> x.fewest());
        x.change(11, 1, 2);
        Check.is("21 one goes, one comes", 2, () -> x.fewest());
        x.add(10);
        Check.is("21 one more", 3, () -> x.fewest());
        x.add(20);
        Check.is("21 same keys", -1, () -> x.fewest());
        x.takeOut(20);
        x.takeOut(10);
        x.add(30);
        Check.is("21 a value above 2 in the draft", -1, () -> x.fewest());
    }

    private static void oneColumn() {
        Lensbench x = Check.with(8, 8, 1000);
        x.open(0);
        x.add(2000);
        x.takeOut(1000);
        Check.is("21 one column", 2, () -> x.fewest());
        x.takeOut(2000);
        Check.is("21 no rows", 1, () -> x.fewest());
    }

    private static void bothColumnsAreKey() {
        Lensbench x = Check.with(3, 3);
        x.open(0);
        for (int row : new int[] {0, 1, 2, 10, 11, 12, 20, 21, 22}) {
            x.add(row);
        }
        Check.is("21 all nine rows", 9, () -> x.fewest());
        x.add(23);
        Check.is("21 ten rows", -1, () -> x.fewest());
    }

    private static void selectTakesAKey() {
        Lensbench x = Check.with(3, 1, 20, 11, 2);
        x.select(0, 1, 1, true);
        x.open(1);
        x.add(10);
        Check.is("21 the hidden row with the key goes", 2, () -> x.fewest());
        x.takeOut(11);
        Check.is("21 and the shown one", 3, () -> x.fewest());
        x.add(21);
        Check.is("21 a row that is not selected", -1, () -> x.fewest());
    }

    private static void drop() {
        Lensbench x = Check.with(3, 1, 20);
        x.drop(0, 1, 9);
        x.open(1);
        Check.is("21 hidden value stays", 0, () -> x.fewest());
        x.add(1);
        Check.is("21 any hidden value", 1, () -> x.fewest());
        x.takeOut(0);
        Check.is("21 another key", 2, () -> x.fewest());
        x.add(3);
        Check.is("21 a key above 2", -1, () -> x.fewest());
    }

    private static void fewerThanPutBack() {
        Lensbench x = Check.with(3, 1, 0, 11);
        x.drop(0, 1, 9);
        x.select(1, 0, 0, false);
        x.open(2);
        x.add(2);
        x.takeOut(1);
        Check.is("20 put back", 2, () -> x.changes());
        Check.is("21 as few", 2, () -> x.fewest());
        x.open(2);
        x.add(0);
        Check.is("18 not selected", 22, () -> x.conflict());
        Check.is("21 none", -1, () -> x.fewest());
    }

    private static void refused() {
        Lensbench x = Check.with(7, 1, 11);
        x.drop(0, 2, 0);
        x.open(1);
        Check.refuses("21 three columns in the table", STATE, () -> x.fewest());
        x.table(3, 1);
        x.table(2, 2);
        x.of(1);
        x.of(2);
        x.join(2, 3);
        x.open(4);
        Check.refuses("21 several tables", STATE, () -> x.fewest());
        x.open(2);
        Check.is("21 one table", 0, () -> x.fewest());
        x.insert(1, 31);
        Check.refuses("21 a value above 2 in the table", STATE, () -> x.fewest());
        x.delete(1, 31);
        x.insert(1, 3);
        Check.refuses("21 in the key too", STATE, () -> x.fewest());
        x.delete(1, 3);
        Check.is("21 without it", 0, () -> x.fewest());
        x.open(2);
        x.putBack();
        Check.refuses("21 not open any more", STATE, () -> x.fewest());
    }

    private static void farColumns() {
        Lensbench x = Check.with(0b100100, 0b100000, 100200, 200000);
        x.open(0);
        x.change(100200, 2, 1);
        x.add(0);
        Check.is("21 columns 2 and 5", 3, () -> x.fewest());
    }
}
