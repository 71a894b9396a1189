// Promises 5 to 12: of, select, drop, join, columns, key, rows, row.
public final class ViewsTest {
    private static final Class<IllegalArgumentException> ARGUMENT = IllegalArgumentException.class;
    private static final Class<IllegalStateException> STATE = IllegalStateException.class;
    private static final Class<IndexOutOfBoundsException> INDEX = IndexOutOfBoundsException.class;

    public static void main(String[] args) {
        of();
        tenViews();
        select();
        selectOfDrop();
        drop();
        join();
        joinOnMoreThanTheKey();
        joinRefused();
        joinOfThree();
        asked();
        Check.done("ViewsTest");
    }

    private static void of() {
        Lensbench x = new Lensbench();
        x.table(3, 1);
        Check.is("5 first", 0, () -> x.of(0));
        Check.is("5 the same table again", 1, () -> x.of(0));
        Check.refuses("5 no such table", INDEX, () -> x.of(1));
        Check.refuses("5 table -1", INDEX, () -> x.of(-1));
        x.insert(0, 42);
        Check.same("5 shows what came later", "42", Check.shown(x, 0));
        x.delete(0, 42);
        Check.same("5 shows what went later", "", Check.shown(x, 1));
    }

    private static void tenViews() {
        Lensbench x = new Lensbench();
        x.table(3, 1);
        x.table(3, 1);
        for (int i = 0; i < 8; i++) {
            x.of(0);
        }
        Check.is("5 ninth", 8, () -> x.of(1));
        Check.is("6 tenth", 9, () -> x.select(8, 0, 0, true));
        Check.refuses("5 eleventh", STATE, () -> x.of(0));
        Check.refuses("6 eleventh", STATE, () -> x.select(0, 0, 0, true));
        Check.refuses("7 eleventh", STATE, () -> x.drop(0, 1, 0));
        Check.refuses("8 eleventh", STATE, () -> x.join(0, 8));
        Check.refuses("5 no table ahead of too many", INDEX, () -> x.of(2));
        Check.refuses("6 no view ahead of too many", INDEX, () -> x.select(10, 0, 0, true));
        Check.refuses("6 column ahead of too many", ARGUMENT, () -> x.select(0, 2, 0, true));
        Check.refuses("7 no view ahead of too many", INDEX, () -> x.drop(10, 1, 0));
        Check.refuses("7 column ahead of too many", ARGUMENT, () -> x.drop(0, 0, 0));
        Check.refuses("8 no view ahead of too many", INDEX, () -> x.join(0, 10));
        Check.refuses("8 one table ahead of too many", ARGUMENT, () -> x.join(0, 1));
        Check.refuses("9 there is no eleventh", INDEX, () -> x.columns(10));
    }

    private static void select() {
        Lensbench x = Check.with(0b1010, 0b1000, 1030, 2050, 3030, 4000);
        Check.is("6 same", 1, () -> x.select(0, 1, 3, true));
        Check.is("6 others", 2, () -> x.select(0, 1, 3, false));
        Check.is("6 by the key", 3, () -> x.select(2, 3, 2, true));
        Check.is("6 of nothing", 4, () -> x.select(3, 1, 9, true));
        Check.same("6 same", "1030 3030", Check.shown(x, 1));
        Check.same("6 others", "2050 4000", Check.shown(x, 2));
        Check.same("6 by the key", "2050", Check.shown(x, 3));
        Check.same("6 of nothing", "", Check.shown(x, 4));
        Check.is("6 columns", 0b1010, () -> x.columns(3));
        Check.is("6 key", 0b1000, () -> x.key(3));
        for (int column : new int[] {0, 2, 4, 5, 6, -1, 33, 35, -29, Integer.MAX_VALUE}) {
            Check.refuses("6 column " + column, ARGUMENT, () -> x.select(0, column, 3, true));
        }
        Check.refuses("6 value 10", ARGUMENT, () -> x.select(0, 1, 10, true));
        Check.refuses("6 value -1", ARGUMENT, () -> x.select(0, 1, -1, false));
        Check.refuses("6 no such view ahead of a wrong column", INDEX, () -> x.select(5, -1, 3, true));
        Check.refuses("6 view -1", INDEX, () -> x.select(-1, 1, 3, true));
        x.insert(0, 5030);
        Check.same("6 shows what came later", "1030 3030 5030", Check.shown(x, 1));
    }

    private static void selectOfDrop() {
        Lensbench x = Check.with(7, 1, 211, 312);
        x.drop(0, 1, 0);
        Check.refuses("6 a dropped column", ARGUMENT, () -> x.select(1, 1, 1, true));
        Check.is("6 one that is left", 2, () -> x.select(1, 2, 3, true));
        Check.same("6 of a drop", "302", Check.shown(x, 2));
    }

    private static void drop() {
        Lensbench x = Check.with(0b100111, 0b100001, 900301, 800452, 100011);
        Check.is("7 first", 1, () -> x.drop(0, 2, 9));
        Check.is("7 of a drop", 2, () -> x.drop(1, 1, 0));
        Check.same("7 rows", "100011 800052 900001", Check.shown(x, 1));
        Check.same("7 rows of a drop", "100001 800002 900001", Check.shown(x, 2));
        Check.is("7 columns", 0b100001, () -> x.columns(2));
        Check.is("7 key", 0b100001, () -> x.key(2));
        Check.refuses("7 a column of the key", ARGUMENT, () -> x.drop(0, 5, 0));
        Check.refuses("7 the other one of the key", ARGUMENT, () -> x.drop(2, 0, 0));
        for (int column : new int[] {3, 4, 6, -1, 34, Integer.MIN_VALUE}) {
            Check.refuses("7 column " + column, ARGUMENT, () -> x.drop(0, column, 0));
        }
        Check.refuses("7 dropped already", ARGUMENT, () -> x.drop(1, 2, 0));
        Check.refuses("7 value 10", ARGUMENT, () -> x.drop(0, 1, 10));
        Check.refuses("7 value -1", ARGUMENT, () -> x.drop(0, 1, -1));
        Check.refuses("7 no such view ahead of a wrong value", INDEX, () -> x.drop(3, 1, 10));
        Check.refuses("7 view -1", INDEX, () -> x.drop(-1, 1, 0));
    }

    private static void join() {
        Lensbench x = Check.with(0b011, 0b001, 11, 12, 23, 34, 5);
        x.table(0b110, 0b010);
        x.insert(1, 710);
        x.insert(1, 820);
        x.insert(1, 940);
        x.of(1);
        Check.is("8 join", 2, () -> x.join(0, 1));
        Check.same("8 rows", "711 712 823", Check.shown(x, 2));
        Check.is("8 columns", 0b111, () -> x.columns(2));
        Check.is("8 key is the left one's", 0b001, () -> x.key(2));
        x.insert(1, 600);
        Check.same("8 shows what came later", "605 711 712 823", Check.shown(x, 2));
    }

    private static void joinOnMoreThanTheKey() {
        Lensbench x = Check.with(0b111, 0b001, 111, 212, 313);
        x.table(0b1110, 0b010);
        x.insert(1, 5210);
        x.of(1);
        x.join(0, 1);
        Check.same("8 all columns in common count", "5212", Check.shown(x, 2));
    }

    private static void joinRefused() {
        Lensbench x = Check.with(0b011, 0b001);
        x.table(0b110, 0b010);
        x.table(0b100, 0b100);
        x.of(1);
        x.of(2);
        x.join(0, 1);
        Check.refuses("8 with itself", ARGUMENT, () -> x.join(0, 0));
        Check.refuses("8 key of the right one is not there", ARGUMENT, () -> x.join(1, 0));
        Check.refuses("8 key of the right one is not there", ARGUMENT, () -> x.join(0, 2));
        Check.refuses("8 one table in both", ARGUMENT, () -> x.join(3, 1));
        Check.refuses("8 one table in both", ARGUMENT, () -> x.join(3, 0));
        Check.refuses("8 no such right one", INDEX, () -> x.join(0, 4));
        Check.refuses("8 no such left one", INDEX, () -> x.join(4, 0));
        Check.refuses("8 -1", INDEX, () -> x.join(-1, 0));
        Check.refuses("8 -1", INDEX, () -> x.join(0, -1));
        Check.is("8 nothing was made", 4, () -> x.join(3, 2));
    }

    private static void joinOfThree() {
        Lensbench x = Check.with(0b0011, 0b0001, 11, 22);
        x.table(0b0110, 0b0010);
        x.insert(1, 310);
        x.insert(1, 420);
        x.table(0b1100, 0b0100);
        x.insert(2, 5300);
        x.of(1);
        x.of(2);
        x.join(1, 2);
        x.join(0, 3);
        Check.same("8 right one is a join", "5311", Check.shown(x, 4));
        Check.is("8 columns", 0b1111, () -> x.columns(4));
        x.join(0, 1);
        x.join(5, 2);
        Check.same("8 left one is a join", "5311", Check.shown(x, 6));
        Check.is("8 key", 1, () -> x.key(6));
    }

    private static void asked() {
        Lensbench x = Check.with(3, 1, 31, 22, 13);
        for (int view : new int[] {1, 10, -1, Integer.MIN_VALUE, Integer.MAX_VALUE}) {
            Check.refuses("9 view " + view, INDEX, () -> x.columns(view));
            Check.refuses("10 view " + view, INDEX, () -> x.key(view));
            Check.refuses("11 view " + view, INDEX, () -> x.rows(view));
            Check.refuses("12 view " + view, INDEX, () -> x.row(view, 0));
        }
        Check.is("9 columns", 3, () -> x.columns(0));
        Check.is("10 key", 1, () -> x.key(0));
        Check.is("11 rows", 3, () -> x.rows(0));
        Check.is("12 first", 13, () -> x.row(0, 0));
        Check.is("12 last", 31, () -> x.row(0, 2));
        Check.refuses("12 place 3", INDEX, () -> x.row(0, 3));
        Check.refuses("12 place 12", INDEX, () -> x.row(0, 12));
        Check.refuses("12 place -1", INDEX, () -> x.row(0, -1));
    }
}
