import java.util.ArrayList;
import java.util.Comparator;
import java.util.List;
import java.util.NoSuchElementException;
import java.util.TreeSet;

// The document once more, as plainly as it can be said: every view is made anew out of its tables
// whenever it is asked, and a row is a text with a digit or a blank for each column.
final class Model {
    private static final class TableOf {
        int columns;
        int key;
        TreeSet<String> rows = newRows();
    }

    private static final class ViewOf {
        char kind;
        int table = -1;
        int left = -1;
        int right = -1;
        int column;
        int value;
        boolean isSame;
        int columns;
        int key;
    }

    @SuppressWarnings("serial")
    private static final class Clash extends Exception {
        final int told;
        final String[] rows;

        Clash(int view, int kind, String... rows) {
            this.told = 10 * view + kind;
            this.rows = rows;
        }
    }

    private final List<TableOf> tables = new ArrayList<>();
    private final List<ViewOf> views = new ArrayList<>();
    private final List<List<TreeSet<String>>> past = new ArrayList<>();
    private TreeSet<String> draft;
    private int draftView;

    // ---- rows

    private static TreeSet<String> newRows() {
        return new TreeSet<>(Comparator.comparingInt(Model::number));
    }

    private static int number(String row) {
        int number = 0;
        for (int c = 5; c >= 0; c--) {
            number = 10 * number + (row.charAt(c) == ' ' ? 0 : row.charAt(c) - '0');
        }
        return number;
    }

    // null if the number is no row with these columns.
    private static String text(int number, int columns) {
        if (number < 0 || number > 999999) {
            return null;
        }
        StringBuilder text = new StringBuilder();
        int rest = number;
        for (int c = 0; c < 6; c++) {
            boolean isColumn = (columns & 1 << c) != 0;
            if (!isColumn && rest % 10 != 0) {
                return null;
            }
            text.append(isColumn ? (char) ('0' + rest % 10) : ' ');
            rest /= 10;
        }
        return text.toString();
    }

    private static String part(String row, int columns) {
        StringBuilder text = new StringBuilder();
        for (int c = 0; c < 6; c++) {
            text.append((columns & 1 << c) != 0 ? row.charAt(c) : ' ');
        }
        return text.toString();
    }

    private static String both(String row, String other) {
        StringBuilder text = new StringBuilder();
        for (int c = 0; c < 6; c++) {
            text.append(row.charAt(c) != ' ' ? row.charAt(c) : other.charAt(c));
        }
        return text.toString();
    }

    private static String with(String row, int column, char value) {
        return row.substring(0, column) + value + row.substring(column + 1);
    }

    private static boolean same(String row, String other, int columns) {
        return part(row, columns).equals(part(other, columns));
    }

    private static boolean anySame(TreeSet<String> rows, String row, int columns) {
        return rows.stream().anyMatch(one -> same(one, row, columns));
    }

    // ---- what a view shows

    private List<TreeSet<String>> tableRows() {
        List<TreeSet<String>> all = new ArrayList<>();
        for (TableOf table : tables) {
            TreeSet<String> rows = newRows();
            rows.addAll(table.rows);
            all.add(rows);
        }
        return all;
    }

    private TreeSet<String> shown(int view, List<TreeSet<String>> base) {
        ViewOf v = views.get(view);
        TreeSet<String> rows = newRows();
        if (v.kind == 'T') {
            rows.addAll(base.get(v.table));
        } else if (v.kind == 'S') {
            shown(v.left, base).stream().filter(row -> isSelected(v, row)).forEach(rows::add);
        } else if (v.kind == 'D') {
            shown(v.left, base).forEach(row -> rows.add(part(row, v.columns)));
        } else {
            int common = views.get(v.left).columns & views.get(v.right).columns;
            for (String row : shown(v.left, base)) {
                for (String other : shown(v.right, base)) {
                    if (same(row, other, common)) {
                        rows.add(both(row, other));
                    }
                }
            }
        }
        return rows;
    }

    private static boolean isSelected(ViewOf v, String row) {
        boolean hasValue = row.charAt(v.column) == (char) ('0' + v.value);
        return v.isSame ? hasValue : !hasValue;
    }

    private TreeSet<Integer> tablesOf(int view) {
        ViewOf v = views.get(view);
        TreeSet<Integer> all = new TreeSet<>();
        if (v.kind == 'T') {
            all.add(v.table);
        } else {
            all.addAll(tablesOf(v.left));
            if (v.kind == 'J') {
                all.addAll(tablesOf(v.right));
            }
        }
        return all;
    }

    // ---- putting back

    private void pair(int view, int kind, TreeSet<String> rows, int key, int columns) throws Clash {
        for (String row : rows) {
            for (String other : rows.tailSet(row, false)) {
                if (same(row, other, key) && !same(row, other, columns)) {
                    throw new Clash(view, kind, row, other);
                }
            }
        }
    }

    private void put(int view, TreeSet<String> n, List<TreeSet<String>> base, List<TreeSet<String>> out) throws Clash {
        ViewOf v = views.get(view);
        pair(view, 1, n, v.key, 63);
        if (v.kind == 'T') {
            if (n.size() > 12) {
                throw new Clash(view, 4);
            }
            out.set(v.table, n);
        } else if (v.kind == 'S') {
            putSelect(view, n, base, out);
        } else if (v.kind == 'D') {
            putDrop(v, n, base, out);
        } else {
            putJoin(view, n, base, out);
        }
    }

    private void putSelect(int view, TreeSet<String> n, List<TreeSet<String>> base, List<TreeSet<String>> out)
            throws Clash {
        ViewOf v = views.get(view);
        for (String row : n) {
            if (!isSelected(v, row)) {
                throw new Clash(view, 2, row);
            }
        }
        TreeSet<String> below = newRows();
        below.addAll(n);
        for (String row : shown(v.left, base)) {
            if (!isSelected(v, row) && !anySame(n, row, v.key)) {
                below.add(row);
            }
        }
        put(v.left, below, base, out);
    }

    private void putDrop(ViewOf v, TreeSet<String> n, List<TreeSet<String>> base, List<TreeSet<String>> out)
            throws Clash {
        TreeSet<String> below = newRows();
        for (String row : n) {
            char value = (char) ('0' + v.value);
            for (String old : shown(v.left, base)) {
                if (same(old, row, v.key)) {
                    value = old.charAt(v.column);
                }
            }
            below.add(with(row, v.column, value));
        }
        put(v.left, below, base, out);
    }

    private void putJoin(int view, TreeSet<String> n, List<TreeSet<String>> base, List<TreeSet<String>> out)
            throws Clash {
        ViewOf v = views.get(view);
        ViewOf left = views.get(v.left);
        ViewOf right = views.get(v.right);
        pair(view, 3, n, right.key, right.columns);
        TreeSet<String> rightRows = newRows();
        TreeSet<String> leftRows = newRows();
        n.forEach(row -> rightRows.add(part(row, right.columns)));
        n.forEach(row -> leftRows.add(part(row, left.columns)));
        for (String row : shown(v.right, base)) {
            if (!anySame(n, row, right.key)) {
                rightRows.add(row);
            }
        }
        for (String row : shown(v.left, base)) {
            if (!anySame(n, row, left.key) && !anySame(rightRows, row, left.columns & right.columns)) {
                leftRows.add(row);
            }
        }
        put(v.right, rightRows, base, out);
        put(v.left, leftRows, base, out);
    }

    private Clash clash() {
        try {
            put(draftView, draft, tableRows(), tableRows());
            return null;
        } catch (Clash clash) {
            return clash;
        }
    }

    private static int unlike(TreeSet<String> rows, TreeSet<String> others) {
        int count = 0;
        for (String row : rows) {
            count += others.contains(row) ? 0 : 1;
        }
        for (String row : others) {
            count += rows.contains(row) ? 0 : 1;
        }
        return count;
    }

    private int plan(List<TreeSet<String>> out) {
        try {
            put(draftView, draft, tableRows(), out);
        } catch (Clash clash) {
            return -1;
        }
        int count = 0;
        for (int i = 0; i < tables.size(); i++) {
            count += unlike(tables.get(i).rows, out.get(i));
        }
        return count;
    }

    // ---- the face

    private static boolean isColumn(int column, int columns) {
        return column >= 0 && column <= 5 && (columns & 1 << column) != 0;
    }

    private static boolean isValue(int value) {
        return value >= 0 && value <= 9;
    }

    private TableOf tableAt(int table) {
        if (table < 0 || table >= tables.size()) {
            throw new IndexOutOfBoundsException();
        }
        return tables.get(table);
    }

    private ViewOf viewAt(int view) {
        if (view < 0 || view >= views.size()) {
            throw new IndexOutOfBoundsException();
        }
        return views.get(view);
    }

    private static void need(boolean holds, RuntimeException otherwise) {
        if (!holds) {
            throw otherwise;
        }
    }

    private void needDraft() {
        need(draft != null, new IllegalStateException());
    }

    private int keep(ViewOf made) {
        need(views.size() < 10, new IllegalStateException());
        views.add(made);
        return views.size() - 1;
    }

    int table(int columns, int key) {
        need(columns >= 1 && columns <= 63 && key > 0 && (key | columns) == columns, new IllegalArgumentException());
        need(tables.size() < 3, new IllegalStateException());
        TableOf made = new TableOf();
        made.columns = columns;
        made.key = key;
        tables.add(made);
        return tables.size() - 1;
    }

    int insert(int table, int row) {
        TableOf into = tableAt(table);
        String text = text(row, into.columns);
        need(text != null, new IllegalArgumentException());
        need(!anySame(into.rows, text, into.key) && into.rows.size() < 12, new IllegalStateException());
        into.rows.add(text);
        return into.rows.size();
    }

    int delete(int table, int row) {
        TableOf from = tableAt(table);
        String text = text(row, from.columns);
        need(text != null && from.rows.remove(text), new NoSuchElementException());
        return from.rows.size();
    }

    int of(int table) {
        TableOf source = tableAt(table);
        ViewOf made = new ViewOf();
        made.kind = 'T';
        made.table = table;
        made.columns = source.columns;
        made.key = source.key;
        return keep(made);
    }

    int select(int view, int column, int value, boolean isSame) {
        ViewOf source = viewAt(view);
        need(isColumn(column, source.columns) && isValue(value), new IllegalArgumentException());
        ViewOf made = new ViewOf();
        made.kind = 'S';
        made.left = view;
        made.column = column;
        made.value = value;
        made.isSame = isSame;
        made.columns = source.columns;
        made.key = source.key;
        return keep(made);
    }

    int drop(int view, int column, int value) {
        ViewOf source = viewAt(view);
        need(isColumn(column, source.columns) && !isColumn(column, source.key) && isValue(value),
                new IllegalArgumentException());
        ViewOf made = new ViewOf();
        made.kind = 'D';
        made.left = view;
        made.column = column;
        made.value = value;
        made.columns = source.columns - (1 << column);
        made.key = source.key;
        return keep(made);
    }

    int join(int view, int other) {
        ViewOf left = viewAt(view);
        ViewOf right = viewAt(other);
        TreeSet<Integer> shared = tablesOf(view);
        shared.retainAll(tablesOf(other));
        need(shared.isEmpty() && (right.key | left.columns) == left.columns, new IllegalArgumentException());
        ViewOf made = new ViewOf();
        made.kind = 'J';
        made.left = view;
        made.right = other;
        made.columns = left.columns | right.columns;
        made.key = left.key;
        return keep(made);
    }

    int columns(int view) {
        return viewAt(view).columns;
    }

    int key(int view) {
        return viewAt(view).key;
    }

    int rows(int view) {
        viewAt(view);
        return shown(view, tableRows()).size();
    }

    int row(int view, int place) {
        viewAt(view);
        List<String> rows = new ArrayList<>(shown(view, tableRows()));
        need(place >= 0 && place < rows.size(), new IndexOutOfBoundsException());
        return number(rows.get(place));
    }

    int open(int view) {
        viewAt(view);
        draftView = view;
        draft = shown(view, tableRows());
        return draft.size();
    }

    int add(int row) {
        needDraft();
        String text = text(row, views.get(draftView).columns);
        need((text == null || !draft.contains(text)) && draft.size() < 20, new IllegalStateException());
        need(text != null, new IllegalArgumentException());
        draft.add(text);
        return draft.size();
    }

    int takeOut(int row) {
        needDraft();
        String text = text(row, views.get(draftView).columns);
        need(text != null && draft.remove(text), new NoSuchElementException());
        return draft.size();
    }

    int change(int row, int column, int value) {
        needDraft();
        int columns = views.get(draftView).columns;
        need(isColumn(column, columns) && isValue(value), new IllegalArgumentException());
        String old = text(row, columns);
        need(old != null && draft.contains(old), new NoSuchElementException());
        String changed = with(old, column, (char) ('0' + value));
        need(changed.equals(old) || !draft.contains(changed), new NoSuchElementException());
        draft.remove(old);
        draft.add(changed);
        return number(changed);
    }

    int draftRow(int place) {
        needDraft();
        need(place >= 0, new IndexOutOfBoundsException());
        return place < draft.size() ? number(new ArrayList<>(draft).get(place)) : -1;
    }

    int conflict() {
        needDraft();
        Clash clash = clash();
        return clash == null ? 0 : clash.told;
    }

    int conflictRow(int which) {
        needDraft();
        need(which == 0 || which == 1, new IllegalArgumentException());
        Clash clash = clash();
        return clash == null || which >= clash.rows.length ? -1 : number(clash.rows[which]);
    }

    int changes() {
        needDraft();
        return plan(tableRows());
    }

    int fewest() {
        needDraft();
        need(tablesOf(draftView).size() == 1, new IllegalStateException());
        int table = tablesOf(draftView).first();
        TableOf source = tables.get(table);
        need(Integer.bitCount(source.columns) <= 2, new IllegalStateException());
        need(source.rows.stream().noneMatch(row -> row.matches(".*[3-9].*")), new IllegalStateException());
        List<String> tried = new ArrayList<>();
        for (int number = 0; number <= 222222; number++) {
            String text = text(number, source.columns);
            if (text != null && !text.matches(".*[3-9].*")) {
                tried.add(text);
            }
        }
        List<TreeSet<String>> base = tableRows();
        base.set(table, newRows());
        return fewest(table, tried, 0, base);
    }

    private int fewest(int table, List<String> tried, int from, List<TreeSet<String>> base) {
        TreeSet<String> rows = base.get(table);
        int best = shown(draftView, base).equals(draft) ? unlike(rows, tables.get(table).rows) : -1;
        for (int i = from; i < tried.size(); i++) {
            if (!anySame(rows, tried.get(i), tables.get(table).key)) {
                rows.add(tried.get(i));
                int found = fewest(table, tried, i + 1, base);
                best = best == -1 ? found : found == -1 ? best : Math.min(best, found);
                rows.remove(tried.get(i));
            }
        }
        return best;
    }

    int putBack() {
        needDraft();
        List<TreeSet<String>> out = tableRows();
        int count = plan(out);
        need(count != -1, new IllegalStateException());
        past.add(tableRows());
        if (past.size() > 5) {
            past.remove(0);
        }
        for (int i = 0; i < tables.size(); i++) {
            tables.get(i).rows = out.get(i);
        }
        draft = null;
        return count;
    }

    int undo() {
        need(!past.isEmpty(), new IllegalStateException());
        List<TreeSet<String>> rows = past.remove(past.size() - 1);
        for (int i = 0; i < tables.size(); i++) {
            tables.get(i).rows = i < rows.size() ? rows.get(i) : newRows();
        }
        return past.size();
    }
}
