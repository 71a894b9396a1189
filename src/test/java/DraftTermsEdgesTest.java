// The edges of the term 'Drafts', a test for each sentence.
public final class DraftTermsEdgesTest {
    public static void main(String[] args) {
        oneDraft();
        rowsAsTheyAreNow();
        table();
        tableAlone();
        select();
        selectFull();
        drop();
        dropOfSelect();
        joinRight();
        joinRightKept();
        joinLeft();
        joinLeftMet();
        joinLeftNotMetAnyMore();
        rightFirst();
        rightOfRightFirst();
        rightOfLeftSecond();
        upperFirst();
        sameKey();
        sameKeyOfTwo();
        notSelected();
        unlikeParts();
        unlikePartsOfTwo();
        tooMany();
        tooManyOnTheRight();
        tooManyOnTheLeft();
        mostRows();
        firstInEachView();
        rowsOfPair();
        rowsOfParts();
        rowAlone();
        rowsOfTooMany();
        lastFive();
        Check.done("DraftTermsEdgesTest");
    }

    private static void told(String what, Lensbench x, int conflict, int first, int second) {
        Check.is("18 " + what, conflict, () -> x.conflict());
        Check.is("19 first row, " + what, first, () -> x.conflictRow(0));
        Check.is("19 second row, " + what, second, () -> x.conflictRow(1));
        if (conflict == 0) {
            Check.same("20 changes, " + what, "true", "" + (x.changes() >= 0));
        } else {
            Check.is("20 changes, " + what, -1, () -> x.changes());
            Check.state("22 putBack, " + what, () -> x.putBack());
        }
    }

    private static void add(Lensbench x, int... rows) {
        for (int row : rows) {
            x.add(row);
        }
    }

    private static void takeAllOut(Lensbench x) {
        while (x.draftRow(0) != Lensbench.NONE) {
            x.takeOut(x.draftRow(0));
        }
    }

    // Left: columns 0 and 1, key 0; right: columns 1 and 2, key 1; views 0, 1 and their JOIN 2.
    private static Lensbench joined(int[] left, int[] right) {
        Lensbench x = Check.with(0b011, 0b001, left);
        x.table(0b110, 0b010);
        for (int row : right) {
            x.insert(1, row);
        }
        x.of(1);
        x.join(0, 1);
        return x;
    }

    private static int[] rows(int... rows) {
        return rows;
    }

    // ---- what putting back does

    private static void oneDraft() {
        Doc.says(Doc.TERMS, "One draft can be open: the rows that a view is to have.");
        Lensbench x = Check.with(3, 1, 11, 22);
        x.select(0, 1, 1, true);
        x.open(0);
        x.add(33);
        x.open(1);
        x.add(14);
        Check.same("13 the later one", "11 14", Check.draft(x));
        Check.is("22 it is put back", 1, () -> x.putBack());
        Check.same("22 in its view", "11 14", Check.shown(x, 1));
        Check.same("22 the earlier one was not", "11 14 22", Check.shown(x, 0));
        Check.state("22 and is not open", () -> x.putBack());
    }

    private static void rowsAsTheyAreNow() {
        Doc.says(Doc.TERMS, "To put it back is to put its rows back in the view;"
                + " to put rows N back in a view that has the rows M now:");
        Lensbench x = Check.with(7, 1, 111, 222);
        x.select(0, 1, 1, true);
        x.drop(0, 2, 9);
        x.open(1);
        x.insert(0, 323);
        Check.is("22 nothing changes", 0, () -> x.putBack());
        Check.same("22 a row that is not selected came since", "111 222 323", Check.shown(x, 0));
        x.open(1);
        x.insert(0, 414);
        Check.is("22 a selected one came since", 1, () -> x.putBack());
        Check.same("22 and goes", "111 222 323", Check.shown(x, 0));
        x.open(2);
        x.delete(0, 111);
        x.insert(0, 511);
        x.delete(0, 222);
        Check.is("22 one comes again", 1, () -> x.putBack());
        Check.same("22 hidden value as it is now, or the default", "323 511 922", Check.shown(x, 0));
    }

    private static void table() {
        Doc.says(Doc.TERMS, "- TABLE: the table has the rows N then.");
        Lensbench x = Check.with(3, 3, 1, 2, 3, 4, 5, 6, 7, 8, 9, 10, 11, 12);
        x.open(0);
        takeAllOut(x);
        Check.is("22 no rows", 12, () -> x.putBack());
        Check.same("22 none", "", Check.shown(x, 0));
        x.open(0);
        add(x, 99, 0, 21, 22, 23, 24, 25, 26, 27, 28, 29, 30);
        Check.is("22 twelve rows", 12, () -> x.putBack());
        Check.same("22 twelve", "0 21 22 23 24 25 26 27 28 29 30 99", Check.shown(x, 0));
    }

    private static void tableAlone() {
        Doc.says(Doc.TERMS, "the table has the rows N then.");
        for (int own = 0; own < 3; own++) {
            Lensbench x = new Lensbench();
            for (int i = 0; i < 3; i++) {
                x.of(x.table(3, 1));
                x.insert(i, 11);
                x.insert(i, 22);
            }
            x.open((own + 1) % 3);
            x.takeOut(11);
            Check.is("20 another draft, not put back", 1, () -> x.changes());
            x.open(own);
            x.takeOut(22);
            x.add(33);
            Check.is("20 table " + own, 2, () -> x.changes());
            Check.is("22 table " + own, 2, () -> x.putBack());
            for (int i = 0; i < 3; i++) {
                Check.same("22 of " + own + ", table " + i, i == own ? "11 33" : "11 22", Check.shown(x, i));
            }
        }
    }

    private static void select() {
        Doc.says(Doc.TERMS, "- SELECT: in its view are put back N, and the rows of that view that are not selected"
                + " and whose key is that of no row of N.");
        Lensbench x = Check.with(3, 1, 20, 11, 32, 13);
        x.select(0, 1, 1, true);
        x.select(0, 1, 1, false);
        x.open(1);
        x.takeOut(11);
        x.takeOut(13);
        Check.is("22 an empty draft", 2, () -> x.putBack());
        Check.same("22 all that are not selected stay", "20 32", Check.shown(x, 0));
        x.open(1);
        x.add(10);
        Check.is("22 in place of one with its key", 2, () -> x.putBack());
        Check.same("22 the first one in order goes", "10 32", Check.shown(x, 0));
        x.open(1);
        x.add(12);
        Check.is("22 in place of the last one", 2, () -> x.putBack());
        Check.same("22 none is left that is not selected", "10 12", Check.shown(x, 0));
        x.open(2);
        add(x, 92, 3);
        Check.is("22 rows with another value", 3, () -> x.putBack());
        Check.same("22 by another value", "3 10 92", Check.shown(x, 0));
    }

    private static void selectFull() {
        Doc.says(Doc.TERMS, "and the rows of that view that are not selected and whose key is that of no row of N.");
        Lensbench x = Check.with(7, 3, 0, 1, 2, 3, 4, 5, 6, 7, 8, 9, 10, 11);
        x.select(0, 2, 1, true);
        x.open(1);
        for (int i = 0; i < 12; i++) {
            x.add(100 + i);
        }
        told("twelve with the keys of twelve", x, 0, -1, -1);
        x.add(112);
        told("one more", x, 4, -1, -1);
        x.takeOut(112);
        Check.is("22 all go and come", 24, () -> x.putBack());
        Check.is("22 twelve", 12, () -> x.rows(1));
        x.select(0, 2, 1, false);
        x.open(2);
        Check.is("22 nothing changes", 0, () -> x.putBack());
        Check.is("22 twelve stay", 12, () -> x.rows(0));
    }

    private static void drop() {
        Doc.says(Doc.TERMS, "- DROP: in its view are put back the rows of N, each with the column:"
                + " with the value that the row of that view with the same key has there, or with the default,"
                + " if there is none.");
        Lensbench x = Check.with(7, 1, 101, 922, 13);
        x.drop(0, 2, 5);
        x.open(1);
        x.change(1, 1, 7);
        x.change(22, 0, 4);
        x.takeOut(13);
        x.add(93);
        x.add(0);
        Check.is("22 rows change", 7, () -> x.putBack());
        Check.same("22 old values by the key, 0 too; otherwise the default", "93 171 500 524", Check.shown(x, 0));
        Lensbench y = Check.with(0b100011, 0b000011, 100011);
        y.drop(0, 5, 0);
        y.open(1);
        y.add(21);
        y.change(11, 0, 2);
        Check.is("22 a default 0", 3, () -> y.putBack());
        Check.same("22 half of a key is none", "12 21", Check.shown(y, 0));
        Lensbench z = Check.with(63, 1, 999999, 0);
        z.drop(0, 5, 8);
        z.open(1);
        z.change(99999, 1, 0);
        z.add(1);
        Check.is("22 column 5", 3, () -> z.putBack());
        Check.same("22 column 5", "0 800001 999909", Check.shown(z, 0));
    }

    private static void dropOfSelect() {
        Doc.says(Doc.TERMS, "or with the default, if there is none.");
        Lensbench x = Check.with(7, 1, 211, 322);
        x.select(0, 1, 1, true);
        x.drop(1, 2, 9);
        x.open(2);
        x.add(12);
        Check.is("22 one comes in place of another", 2, () -> x.putBack());
        Check.same("22 a row that is not selected has no value to give", "211 912", Check.shown(x, 0));
        x.drop(1, 1, 1);
        x.open(3);
        x.add(403);
        Check.is("22 a default that is selected", 1, () -> x.putBack());
        Check.same("22 a default that is selected", "211 413 912", Check.shown(x, 0));
        x.drop(1, 1, 2);
        x.open(4);
        x.add(4);
        told("a default that is not selected", x, 12, 24, -1);
    }

    private static void joinRight() {
        Doc.says(Doc.TERMS, "- JOIN: in the right view are put back the parts of the rows of N in its columns,"
                + " and its rows whose key is that of none of these.");
        Lensbench x = joined(rows(11, 12, 23), rows(910, 820));
        x.open(2);
        x.change(911, 2, 7);
        x.change(912, 2, 7);
        x.add(634);
        Check.is("22 one changes, one comes in each", 4, () -> x.putBack());
        Check.same("22 two rows with one part, an old key, a new one", "630 710 820", Check.shown(x, 1));
        Check.same("22 left", "11 12 23 34", Check.shown(x, 0));
        Check.same("22 the JOIN", "634 711 712 823", Check.shown(x, 2));
    }

    private static void joinRightKept() {
        Doc.says(Doc.TERMS, "and its rows whose key is that of none of these.");
        Lensbench x = joined(rows(11), rows(0, 910, 820, 990));
        x.open(2);
        x.takeOut(911);
        Check.is("22 an empty draft: a left row goes", 1, () -> x.putBack());
        Check.same("22 all right rows stay", "0 820 910 990", Check.shown(x, 1));
        x.open(2);
        x.add(105);
        Check.is("22 key 0", 3, () -> x.putBack());
        Check.same("22 the first one goes", "100 820 910 990", Check.shown(x, 1));
        x.open(2);
        x.add(96);
        Check.is("22 key 9", 3, () -> x.putBack());
        Check.same("22 the last one goes", "90 100 820 910", Check.shown(x, 1));
        Check.same("22 left", "5 96", Check.shown(x, 0));
    }

    private static void joinLeft() {
        Doc.says(Doc.TERMS, "Then in the left view are put back the parts of the rows of N in its columns,"
                + " and its rows whose key is that of none of these, and with which no row that was put back in the"
                + " right view has the same values in the columns that both have.");
        Lensbench x = joined(rows(0, 11, 42, 13, 54), rows(910));
        x.open(2);
        Check.same("13 the JOIN", "911 913", Check.draft(x));
        x.takeOut(911);
        Check.is("22 one of two", 1, () -> x.putBack());
        Check.same("22 all that met no row stay, the first and the last too", "0 13 42 54", Check.shown(x, 0));
        x.open(2);
        x.add(910);
        x.add(914);
        Check.is("22 with the keys of rows that met none", 4, () -> x.putBack());
        Check.same("22 these go", "10 13 14 42", Check.shown(x, 0));
        x.open(2);
        takeAllOut(x);
        Check.is("22 an empty draft", 3, () -> x.putBack());
        Check.same("22 what met none stays", "42", Check.shown(x, 0));
        Check.same("22 right", "910", Check.shown(x, 1));
    }

    private static void joinLeftMet() {
        Doc.says(Doc.TERMS, "and with which no row that was put back in the right view has the same values in the"
                + " columns that both have.");
        Lensbench x = joined(rows(20, 21, 32), rows(910));
        x.open(2);
        x.add(825);
        Check.is("22 two go, two come", 4, () -> x.putBack());
        Check.same("22 those that meet the new right row go", "25 32", Check.shown(x, 0));
        Check.same("22 right", "820 910", Check.shown(x, 1));
        Check.same("22 what is put back is got again", "825", Check.shown(x, 2));
        x.insert(1, 730);
        x.open(2);
        x.takeOut(732);
        Check.is("22 one that meets a right row that stays", 1, () -> x.putBack());
        Check.same("22 goes", "25", Check.shown(x, 0));
        Check.same("22 right", "730 820 910", Check.shown(x, 1));
    }

    private static void joinLeftNotMetAnyMore() {
        Doc.says(Doc.TERMS, "has the same values in the columns that both have.");
        Lensbench x = Check.with(0b0111, 0b0001, 111, 112, 223);
        x.table(0b1110, 0b0010);
        x.insert(1, 9110);
        x.of(1);
        x.join(0, 1);
        x.open(2);
        x.takeOut(9112);
        x.change(9111, 2, 2);
        Check.is("22 two go, two come", 4, () -> x.putBack());
        Check.same("22 it meets the right row no more, and stays", "112 211 223", Check.shown(x, 0));
        Check.same("22 right", "9210", Check.shown(x, 1));
        Check.same("22 what is put back is got again", "9211", Check.shown(x, 2));
    }

    // ---- the order of conflicts

    private static void rightFirst() {
        Doc.says(Doc.TERMS, "There is a conflict, if on this way, view by view, each ahead of those of which it is"
                + " made, a right view and all of which that is made ahead of the left one:");
        Lensbench x = Check.with(0b011, 0b001);
        x.table(0b110, 0b010);
        x.of(1);
        x.select(0, 0, 9, false);
        x.select(1, 2, 9, false);
        x.select(3, 2, 8, false);
        x.join(2, 4);
        x.open(5);
        x.add(919);
        told("left and right's second one", x, 32, 910, -1);
        x.add(828);
        told("right's first one", x, 42, 820, -1);
        x.add(937);
        told("right's first one still", x, 42, 820, -1);
        x.takeOut(828);
        told("right's second one again", x, 32, 910, -1);
        x.change(919, 2, 7);
        told("right's other row", x, 32, 930, -1);
        x.change(937, 2, 7);
        told("left at last", x, 22, 19, -1);
        x.change(719, 0, 8);
        told("none", x, 0, -1, -1);
    }

    // Tables of the columns 0 and 1, 1 and 2, 2 and 3, with keys 0, 1 and 2; the views 3 to 5 are
    // their rows without the value 9 in column 0, 1 and 2.
    private static Lensbench threeTables() {
        Lensbench x = new Lensbench();
        for (int i = 0; i < 3; i++) {
            x.table(3 << i, 1 << i);
            x.of(i);
        }
        for (int i = 0; i < 3; i++) {
            x.select(i, i, 9, false);
        }
        return x;
    }

    private static void rightOfRightFirst() {
        Doc.says(Doc.TERMS, "a right view and all of which that is made ahead of the left one:");
        Lensbench x = threeTables();
        x.join(4, 5);
        x.join(3, 6);
        x.open(7);
        x.add(999);
        told("the right one of the right one", x, 52, 900, -1);
        x.change(999, 2, 0);
        told("the left one of the right one", x, 42, 90, -1);
        x.change(99, 1, 0);
        told("the left one", x, 32, 9, -1);
        x.add(1999);
        told("same keys ahead of all", x, 71, 9, 1999);
        x.change(1999, 0, 8);
        told("the right one of the right one again", x, 52, 1900, -1);
        x.add(997);
        told("unlike parts in the upper one", x, 73, 997, 1998);
        x.change(997, 2, 8);
        told("unlike parts in the upper one still", x, 73, 897, 1998);
    }

    private static void rightOfLeftSecond() {
        Doc.says(Doc.TERMS, "view by view, each ahead of those of which it is made");
        Lensbench x = threeTables();
        x.join(3, 4);
        x.join(6, 5);
        x.open(7);
        x.add(999);
        told("the right one", x, 52, 900, -1);
        x.change(999, 2, 0);
        told("the right one of the left one", x, 42, 90, -1);
        x.add(198);
        told("unlike parts in the left one, ahead of it", x, 63, 99, 198);
        x.takeOut(198);
        x.change(99, 1, 0);
        told("the left one of the left one", x, 32, 9, -1);
        x.change(9, 0, 8);
        told("none", x, 0, -1, -1);
        Check.is("22 a row comes to each table", 3, () -> x.putBack());
    }

    private static void upperFirst() {
        Doc.says(Doc.TERMS, "each ahead of those of which it is made");
        Lensbench x = Check.with(3, 1);
        for (int i = 1; i < 10; i++) {
            x.select(i - 1, 1, i, false);
        }
        x.open(9);
        for (int i = 1; i < 10; i++) {
            x.add(10 * i + i);
            told("each upper one is told ahead of the lower ones", x, 10 * i + 2, 11 * i, -1);
        }
        for (int i = 9; i > 1; i--) {
            x.takeOut(11 * i);
            told("the lower one then", x, 10 * i - 8, 11 * i - 11, -1);
        }
        x.change(11, 1, 0);
        told("none in ten views", x, 0, -1, -1);
        Check.is("22 through ten views", 1, () -> x.putBack());
    }

    // ---- each conflict

    private static void sameKey() {
        Doc.says(Doc.TERMS, "1, two rows to be put back in a view have the same key;");
        Lensbench x = joined(rows(11), rows(910));
        x.select(0, 1, 9, false);
        x.open(0);
        x.add(21);
        told("in a TABLE", x, 1, 11, 21);
        x.open(3);
        x.add(1);
        told("in a SELECT", x, 31, 1, 11);
        x.open(2);
        x.add(821);
        told("in a JOIN", x, 21, 821, 911);
        x.change(821, 0, 0);
        told("unlike keys", x, 0, -1, -1);
        Lensbench y = Check.with(7, 1, 111);
        y.drop(0, 1, 0);
        y.open(1);
        y.add(1);
        told("in a DROP", y, 11, 1, 101);
    }

    private static void sameKeyOfTwo() {
        Doc.says(Doc.TERMS, "two rows to be put back in a view have the same key;");
        Lensbench x = Check.with(63, 0b100001, 100001);
        x.open(0);
        add(x, 100002, 200001, 99991);
        told("each half alone is no key", x, 0, -1, -1);
        x.add(199991);
        told("both halves", x, 1, 100001, 199991);
        Lensbench whole = Check.with(3, 3);
        whole.open(0);
        add(whole, 0, 1, 10, 11);
        told("a key of all columns", whole, 0, -1, -1);
    }

    private static void notSelected() {
        Doc.says(Doc.TERMS, "2, a row to be put back in a SELECT is not selected by it;");
        Lensbench x = Check.with(3, 1);
        x.select(0, 1, 0, true);
        x.select(0, 1, 0, false);
        x.select(0, 0, 9, true);
        x.open(1);
        x.add(0);
        told("the value 0", x, 0, -1, -1);
        x.add(11);
        told("another one", x, 12, 11, -1);
        x.open(2);
        x.add(11);
        told("not the value 0", x, 0, -1, -1);
        x.add(0);
        told("row 0", x, 22, 0, -1);
        x.open(3);
        x.add(9);
        told("by the key", x, 0, -1, -1);
        x.add(8);
        told("another key", x, 32, 8, -1);
    }

    private static void unlikeParts() {
        Doc.says(Doc.TERMS, "3, two rows to be put back in a JOIN have parts in the columns of the right view that are"
                + " unlike, but the same in its key;");
        Lensbench x = joined(rows(11), rows(910));
        x.open(2);
        x.add(912);
        told("the same part", x, 0, -1, -1);
        x.add(823);
        told("an unlike part with another key", x, 0, -1, -1);
        x.change(823, 1, 1);
        told("an unlike part with the same key", x, 23, 813, 911);
        x.takeOut(911);
        told("an unlike part with the same key", x, 23, 813, 912);
        x.takeOut(912);
        told("unlike to a row that the right view has", x, 0, -1, -1);
        Check.is("22 which goes", 4, () -> x.putBack());
    }

    private static void unlikePartsOfTwo() {
        Doc.says(Doc.TERMS, "have parts in the columns of the right view that are unlike, but the same in its key;");
        Lensbench x = Check.with(0b00111, 0b00001);
        x.table(0b01110, 0b00110);
        x.of(1);
        x.join(0, 1);
        x.open(2);
        add(x, 5110, 6121, 7212);
        told("half of the key is unlike each time", x, 0, -1, -1);
        x.add(8123);
        told("the whole key is the same", x, 23, 6121, 8123);
    }

    private static void tooMany() {
        Doc.says(Doc.TERMS, "4, more than 12 rows are to be put back in a TABLE;");
        Lensbench x = Check.with(7, 3);
        x.select(0, 2, 9, false);
        x.drop(0, 2, 0);
        for (int view = 0; view <= 2; view++) {
            x.open(view);
            for (int i = 0; i < 12; i++) {
                x.add(i);
            }
            told("twelve in view " + view, x, 0, -1, -1);
            Check.is("20 twelve come", 12, () -> x.changes());
            x.add(12);
            told("thirteen in view " + view, x, 4, -1, -1);
            for (int i = 13; i < 20; i++) {
                x.add(i);
            }
            told("twenty in view " + view, x, 4, -1, -1);
        }
    }

    private static void tooManyOnTheRight() {
        Doc.says(Doc.TERMS, "more than 12 rows are to be put back in a TABLE;");
        Lensbench x = Check.with(0b111, 0b001);
        x.table(0b1110, 0b0110);
        for (int i = 0; i < 12; i++) {
            x.insert(1, 10 * i);
        }
        x.of(1);
        x.join(0, 1);
        x.open(2);
        x.add(5000);
        told("in place of one of twelve", x, 0, -1, -1);
        x.add(121);
        told("one more than twelve", x, 14, -1, -1);
        x.delete(1, 110);
        told("as many as twelve", x, 0, -1, -1);
        Check.is("22 two come, one goes on the right, two come on the left", 5, () -> x.putBack());
        Check.is("11 twelve", 12, () -> x.rows(1));
    }

    private static void tooManyOnTheLeft() {
        Doc.says(Doc.TERMS, "4, more than 12 rows are to be put back in a TABLE;");
        Lensbench x = Check.with(0b0111, 0b0011);
        for (int i = 0; i < 12; i++) {
            x.insert(0, 100 + i);
        }
        x.table(0b1100, 0b0100);
        x.of(1);
        x.join(0, 1);
        x.open(2);
        x.add(3200);
        told("in place of one of twelve", x, 0, -1, -1);
        x.add(3212);
        told("one more than twelve", x, 4, -1, -1);
        x.add(3113);
        told("what is met goes", x, 0, -1, -1);
        x.takeOut(3113);
        x.insert(1, 100);
        told("what is met by a row that stays goes, too", x, 0, -1, -1);
        Check.is("22 all that are met go", 15, () -> x.putBack());
        Check.same("22 left", "200 212", Check.shown(x, 0));
    }

    // 20 rows of a draft and 12 that stay are the most that can meet in a view.
    private static void mostRows() {
        Doc.says(Doc.TERMS, "4, more than 12 rows are to be put back in a TABLE;");
        Lensbench x = Check.with(0b1111, 0b0011);
        for (int i = 80; i < 92; i++) {
            x.insert(0, 9000 + i);
        }
        x.select(0, 2, 9, false);
        x.select(1, 3, 9, false);
        x.open(2);
        for (int i = 0; i < 19; i++) {
            x.add(i);
        }
        x.add(979);
        told("the SELECT below, where 32 meet", x, 12, 979, -1);
        x.takeOut(979);
        x.add(79);
        told("the TABLE, where 32 meet", x, 4, -1, -1);
    }

    private static void firstInEachView() {
        Doc.says(Doc.TERMS, "in each view the first one of these is told.");
        Lensbench x = Check.with(3, 1);
        x.select(0, 1, 0, true);
        x.open(1);
        add(x, 11, 21);
        told("1 ahead of 2", x, 11, 11, 21);
        x.takeOut(21);
        told("2 alone", x, 12, 11, -1);
        Lensbench y = joined(rows(), rows());
        y.open(2);
        add(y, 111, 211, 123);
        told("1 ahead of 3", y, 21, 111, 211);
        y.change(211, 0, 2);
        told("3 alone", y, 23, 111, 212);
        Lensbench z = Check.with(7, 3);
        z.open(0);
        for (int i = 0; i < 12; i++) {
            z.add(i);
        }
        z.add(105);
        told("1 ahead of 4", z, 1, 5, 105);
        z.change(105, 1, 9);
        told("4 alone", z, 4, -1, -1);
    }

    // ---- the rows of conflicts

    private static void rowsOfPair() {
        Doc.says(Doc.TERMS, "Its rows are, for 1 and 3, the first row in order that has one behind it with which it is"
                + " so, and the first such one behind it;");
        Lensbench x = Check.with(3, 1);
        x.open(0);
        add(x, 0, 21, 32, 42, 71);
        told("the earlier pair, though it is wider", x, 1, 21, 71);
        x.add(61);
        told("the first one behind it", x, 1, 21, 61);
        x.add(90);
        told("row 0 and the last one", x, 1, 0, 90);
        x.takeOut(0);
        x.takeOut(21);
        told("then the next pair", x, 1, 32, 42);
        x.takeOut(42);
        told("then those behind", x, 1, 61, 71);
        x.takeOut(71);
        told("then none", x, 0, -1, -1);
    }

    private static void rowsOfParts() {
        Doc.says(Doc.TERMS, "for 1 and 3, the first row in order that has one behind it with which it is so");
        Lensbench x = joined(rows(), rows());
        x.open(2);
        add(x, 110, 111, 212, 313);
        told("whole rows of the JOIN, the first and one behind the like", x, 23, 110, 212);
        x.takeOut(110);
        told("the next like it", x, 23, 111, 212);
        x.takeOut(111);
        told("the last two", x, 23, 212, 313);
        add(x, 24, 925);
        told("the earlier pair, though it is wider", x, 23, 24, 925);
        x.takeOut(925);
        told("the later pair", x, 23, 212, 313);
    }

    private static void rowAlone() {
        Doc.says(Doc.TERMS, "for 2 the first row for which it is so, alone;");
        Lensbench x = Check.with(3, 1);
        x.select(0, 1, 5, true);
        x.open(1);
        add(x, 50, 51, 62, 43);
        told("the first of two", x, 12, 43, -1);
        x.takeOut(43);
        told("the last row of all", x, 12, 62, -1);
        x.add(4);
        told("the first row of all", x, 12, 4, -1);
    }

    private static void rowsOfTooMany() {
        Doc.says(Doc.TERMS, "none for 4.");
        Lensbench x = Check.with(3, 3);
        x.open(0);
        for (int i = 0; i < 13; i++) {
            x.add(i);
        }
        told("thirteen", x, 4, -1, -1);
    }

    // ---- undo

    private static void lastFive() {
        Doc.says(Doc.TERMS, "The last 5 drafts that were put back can be undone.");
        Lensbench x = Check.with(1, 1);
        x.table(1, 1);
        x.of(1);
        for (int i = 0; i < 9; i++) {
            x.open(i % 2);
            x.add(i);
            x.putBack();
        }
        String[] first = {"0 2 4 6", "0 2 4 6", "0 2 4", "0 2 4", "0 2"};
        String[] second = {"1 3 5 7", "1 3 5", "1 3 5", "1 3", "1 3"};
        for (int i = 0; i < 5; i++) {
            int left = 4 - i;
            Check.is("23 more", left, () -> x.undo());
            Check.same("23 first table, " + left, first[i], Check.shown(x, 0));
            Check.same("23 second table, " + left, second[i], Check.shown(x, 1));
        }
        Check.state("23 not the sixth from the end", () -> x.undo());
        for (int i = 4; i < 10; i++) {
            x.open(0);
            x.add(i);
            x.putBack();
        }
        for (int left = 4; left >= 0; left--) {
            int due = left;
            Check.is("23 five of six once more", due, () -> x.undo());
        }
        Check.same("23 but not the first of them", "0 2 4", Check.shown(x, 0));
        Check.state("23 not the sixth from the end", () -> x.undo());
    }
}
