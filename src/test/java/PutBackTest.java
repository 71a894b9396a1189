// Promises 18, 19, 20, 22 and 23: conflict, conflictRow, changes, putBack, undo.
public final class PutBackTest {
    private static final Class<IllegalArgumentException> ARGUMENT = IllegalArgumentException.class;
    private static final Class<IllegalStateException> STATE = IllegalStateException.class;

    public static void main(String[] args) {
        sameKey();
        notSelected();
        sameKeyAheadOfNotSelected();
        unlikeParts();
        tooMany();
        tooManyBelowASelect();
        rightAheadOfLeft();
        wholeRightAheadOfLeft();
        conflictRowRange();
        tableWritesBack();
        selectWritesBack();
        dropWritesBack();
        joinWritesBack();
        joinKeepsUnmatched();
        undo();
        undoFive();
        undoLaterTables();
        Check.done("PutBackTest");
    }

    private static void told(String what, Lensbench x, int conflict, int first, int second) {
        Check.is("18 " + what, conflict, () -> x.conflict());
        Check.is("19 first row, " + what, first, () -> x.conflictRow(0));
        Check.is("19 second row, " + what, second, () -> x.conflictRow(1));
        if (conflict != 0) {
            Check.is("20 " + what, -1, () -> x.changes());
            String before = Check.draft(x);
            Check.refuses("22 " + what, STATE, () -> x.putBack());
            Check.same("22 draft stays, " + what, before, Check.draft(x));
        }
    }

    private static void sameKey() {
        Lensbench x = Check.with(3, 1, 11, 22);
        x.open(0);
        told("no conflict", x, 0, -1, -1);
        x.add(42);
        x.add(32);
        told("three with one key", x, 1, 22, 32);
        x.add(91);
        told("the first row in order", x, 1, 11, 91);
        x.takeOut(11);
        x.takeOut(22);
        told("one behind it", x, 1, 32, 42);
    }

    private static void notSelected() {
        Lensbench x = Check.with(3, 1, 11, 22);
        x.select(0, 1, 1, true);
        x.select(0, 1, 1, false);
        x.open(1);
        x.add(23);
        x.add(34);
        told("the first one alone", x, 12, 23, -1);
        x.open(2);
        x.add(15);
        told("another value is asked for", x, 22, 15, -1);
        x.open(2);
        x.add(35);
        told("it has another value", x, 0, -1, -1);
    }

    private static void sameKeyAheadOfNotSelected() {
        Lensbench x = Check.with(3, 1, 14);
        x.select(0, 1, 1, true);
        x.select(1, 0, 4, false);
        x.open(2);
        x.add(14);
        told("the upper view is told", x, 22, 14, -1);
        x.add(20);
        x.add(30);
        told("same key is told first", x, 21, 20, 30);
        x.takeOut(30);
        x.takeOut(14);
        told("the lower view is told", x, 12, 20, -1);
    }

    private static Lensbench joined() {
        Lensbench x = Check.with(0b0011, 0b0001, 11, 12, 23);
        x.table(0b1110, 0b0010);
        x.insert(1, 5310);
        x.insert(1, 6420);
        x.of(1);
        x.join(0, 1);
        return x;
    }

    private static void unlikeParts() {
        Lensbench x = joined();
        x.open(2);
        Check.same("8 rows", "5311 5312 6423", Check.draft(x));
        x.add(5917);
        told("unlike in another column", x, 23, 5311, 5917);
        x.takeOut(5311);
        told("the next one", x, 23, 5312, 5917);
        x.add(1117);
        told("same key is told first", x, 21, 1117, 5917);
        x.takeOut(5312);
        x.takeOut(1117);
        told("alone", x, 0, -1, -1);
    }

    private static void tooMany() {
        Lensbench x = Check.with(3, 3, 0);
        x.open(0);
        for (int i = 1; i < 12; i++) {
            x.add(i);
        }
        told("twelve", x, 0, -1, -1);
        x.add(12);
        told("thirteen", x, 4, -1, -1);
        x.takeOut(0);
        Check.is("22 twelve come, one goes", 13, () -> x.putBack());
        Check.is("11 twelve", 12, () -> x.rows(0));
    }

    private static void tooManyBelowASelect() {
        Lensbench x = Check.with(7, 3, 1, 2, 3, 4, 5, 6, 7, 108);
        x.select(0, 2, 1, true);
        x.open(1);
        for (int i = 11; i < 15; i++) {
            x.add(100 + i);
        }
        told("with the rows not selected twelve", x, 0, -1, -1);
        x.add(115);
        told("with the rows not selected thirteen", x, 4, -1, -1);
        x.takeOut(115);
        x.add(107);
        told("in place of one that is not selected", x, 0, -1, -1);
        Check.is("20 it goes", 6, () -> x.changes());
    }

    private static void rightAheadOfLeft() {
        Lensbench x = joined();
        x.select(0, 0, 5, false);
        x.select(1, 3, 7, false);
        x.join(3, 4);
        x.open(5);
        x.add(7145);
        told("both are wrong, right is told", x, 42, 7140, -1);
        x.change(7145, 3, 6);
        told("left is wrong", x, 32, 45, -1);
        x.change(6145, 0, 4);
        told("none is wrong", x, 0, -1, -1);
    }

    private static void wholeRightAheadOfLeft() {
        Lensbench x = new Lensbench();
        x.table(0b0011, 0b0001);
        x.table(0b0110, 0b0010);
        x.of(0);
        x.of(1);
        x.select(1, 2, 3, true);
        x.select(2, 1, 3, true);
        x.select(0, 0, 3, true);
        x.join(4, 3);
        x.open(5);
        x.add(334);
        x.add(337);
        told("left is wrong", x, 42, 34, -1);
        x.add(447);
        told("the upper one on the right is told", x, 51, 337, 447);
        x.takeOut(337);
        told("the upper one on the right is told", x, 32, 440, -1);
        x.change(447, 1, 3);
        told("right parts are unlike", x, 53, 334, 437);
        x.takeOut(334);
        told("the lower one on the right ahead of the left one", x, 22, 430, -1);
    }

    private static void conflictRowRange() {
        Lensbench x = Check.with(3, 1, 11);
        x.open(0);
        for (int which : new int[] {-1, 2, Integer.MIN_VALUE, Integer.MAX_VALUE}) {
            Check.refuses("19 which " + which, ARGUMENT, () -> x.conflictRow(which));
        }
        Check.is("19 no conflict", -1, () -> x.conflictRow(0));
        Check.is("19 no conflict", -1, () -> x.conflictRow(1));
        x.add(21);
        Check.is("19 asked ahead of conflict()", 21, () -> x.conflictRow(1));
        x.takeOut(11);
        Check.is("19 not the last answer again", -1, () -> x.conflictRow(1));
    }

    private static void tableWritesBack() {
        Lensbench x = Check.with(3, 1, 11, 22, 33);
        x.open(0);
        Check.is("20 none", 0, () -> x.changes());
        x.takeOut(11);
        x.add(44);
        x.change(22, 1, 5);
        Check.is("20 two go, two come", 4, () -> x.changes());
        Check.same("20 changes nothing", "11 22 33", Check.shown(x, 0));
        Check.is("22 as many", 4, () -> x.putBack());
        Check.same("22 rows", "33 44 52", Check.shown(x, 0));
        Check.refuses("22 it is not open any more", STATE, () -> x.draftRow(0));
        Check.refuses("22 it is not open any more", STATE, () -> x.putBack());
        x.open(0);
        x.insert(0, 5);
        Check.is("20 against the rows as they are", 1, () -> x.changes());
        Check.is("22 a row that came since goes", 1, () -> x.putBack());
        Check.same("22 rows", "33 44 52", Check.shown(x, 0));
    }

    private static void selectWritesBack() {
        Lensbench x = Check.with(3, 1, 11, 12, 23, 34);
        x.select(0, 1, 1, true);
        x.open(1);
        x.takeOut(11);
        x.add(13);
        x.add(15);
        Check.is("22 select", 4, () -> x.putBack());
        Check.same("22 what is put back is got again", "12 13 15", Check.shown(x, 1));
        Check.same("22 a row with the key of a new one goes", "12 13 15 34", Check.shown(x, 0));
        x.select(0, 1, 1, false);
        x.open(2);
        x.takeOut(34);
        x.add(93);
        Check.is("22 select others", 3, () -> x.putBack());
        Check.same("22 select others", "12 15 93", Check.shown(x, 0));
    }

    private static void dropWritesBack() {
        Lensbench x = Check.with(7, 1, 211, 322);
        x.drop(0, 1, 7);
        x.drop(1, 2, 8);
        x.open(1);
        x.change(201, 2, 5);
        x.takeOut(302);
        x.add(403);
        Check.is("22 drop", 4, () -> x.putBack());
        Check.same("22 old value by key, default for new ones", "473 511", Check.shown(x, 0));
        x.open(2);
        x.add(9);
        x.change(3, 0, 4);
        Check.is("22 drop of drop", 3, () -> x.putBack());
        Check.same("22 a new key has the defaults", "511 874 879", Check.shown(x, 0));
    }

    private static void joinWritesBack() {
        Lensbench x = joined();
        x.open(2);
        x.takeOut(5311);
        x.takeOut(5312);
        x.add(1125);
        x.takeOut(6423);
        Check.is("20 join", 6, () -> x.changes());
        Check.is("22 join", 6, () -> x.putBack());
        Check.same("22 left", "25", Check.shown(x, 0));
        Check.same("22 rows of the right one stay", "1120 5310", Check.shown(x, 1));
        Check.same("22 what is put back is got again", "1125", Check.shown(x, 2));
    }

    private static void joinKeepsUnmatched() {
        Lensbench x = Check.with(0b011, 0b001, 11, 22, 43, 94);
        x.table(0b110, 0b010);
        x.insert(1, 510);
        x.insert(1, 630);
        x.of(1);
        x.join(0, 1);
        x.open(2);
        x.takeOut(511);
        x.add(741);
        x.add(825);
        Check.is("22 join", 7, () -> x.putBack());
        Check.same("22 right", "510 630 741 825", rightAndLeft(x));
        Check.same("22 what is put back is got again", "741 825", Check.shown(x, 2));
        Check.same("22 left: met rows go, others stay", "25 41 94", Check.shown(x, 0));
    }

    private static String rightAndLeft(Lensbench x) {
        Check.same("22 right one alone", "510 630 740 820", Check.shown(x, 1));
        return "510 630 " + Check.shown(x, 2);
    }

    private static void undo() {
        Lensbench x = Check.with(3, 1, 11);
        x.table(1, 1);
        x.insert(1, 4);
        x.of(1);
        x.open(0);
        x.add(22);
        x.putBack();
        x.open(0);
        Check.is("22 nothing changes", 0, () -> x.putBack());
        x.insert(0, 33);
        x.delete(1, 4);
        x.open(0);
        x.takeOut(22);
        Check.is("23 one that changed nothing", 1, () -> x.undo());
        Check.same("23 an insert since is undone", "11 22", Check.shown(x, 0));
        Check.same("23 a delete in another table too", "4", Check.shown(x, 1));
        Check.same("23 the draft stays", "11 33", Check.draft(x));
        Check.is("23 the first", 0, () -> x.undo());
        Check.same("23 rows", "11", Check.shown(x, 0));
        Check.refuses("23 none", STATE, () -> x.undo());
        Check.is("20 the draft against the rows again", 1, () -> x.changes());
    }

    private static void undoFive() {
        Lensbench x = Check.with(1, 1);
        for (int i = 0; i < 7; i++) {
            x.open(0);
            x.add(i);
            x.putBack();
        }
        Check.is("23 first", 4, () -> x.undo());
        Check.same("23 rows", "0 1 2 3 4 5", Check.shown(x, 0));
        x.open(0);
        x.add(9);
        x.putBack();
        Check.is("23 a new one", 4, () -> x.undo());
        Check.same("23 rows", "0 1 2 3 4 5", Check.shown(x, 0));
        for (int i = 3; i >= 0; i--) {
            int left = i;
            Check.is("23 more", left, () -> x.undo());
        }
        Check.same("23 rows", "0 1", Check.shown(x, 0));
        Check.refuses("23 not the sixth", STATE, () -> x.undo());
        Check.same("23 rows", "0 1", Check.shown(x, 0));
    }

    private static void undoLaterTables() {
        Lensbench x = Check.with(1, 1, 5);
        for (int i = 0; i < 4; i++) {
            x.open(0);
            x.putBack();
        }
        x.table(2, 2);
        x.insert(1, 30);
        x.of(1);
        x.open(0);
        x.add(6);
        x.putBack();
        x.open(0);
        x.putBack();
        Check.is("23", 4, () -> x.undo());
        Check.is("23", 3, () -> x.undo());
        Check.same("23 it was there with its row", "30", Check.shown(x, 1));
        Check.is("23", 2, () -> x.undo());
        Check.same("23 it was not there yet", "", Check.shown(x, 1));
        Check.is("5 the table is still there", 2, () -> x.of(1));
        Check.is("3 and takes rows", 1, () -> x.insert(1, 30));
    }
}
