import java.util.NoSuchElementException;

public final class Lensbench {
    public static final int NONE = -1;

    private static final int COLUMNS = 6;
    private static final int ALL_COLUMNS = 63;
    private static final int MAX_VALUE = 9;
    private static final int MAX_ROW = 999999;
    private static final int MAX_TABLES = 3;
    private static final int MAX_VIEWS = 10;
    private static final int TABLE_ROWS = 12;
    private static final int DRAFT_ROWS = 20;
    // Each row that is put back in a view comes of one row of the draft, or is a row that the
    // view has already; a view never has more rows than a table, so no more than these meet.
    private static final int WANTED_ROWS = 32;
    private static final int MAX_UNDOS = 5;
    private static final int TRIED_COLUMNS = 2;
    private static final int TRIED_VALUE = 2;
    private static final int TRIED_ROWS = 9;

    private static final int SAME_KEY = 1;
    private static final int NOT_SELECTED = 2;
    private static final int UNLIKE_PARTS = 3;
    private static final int TOO_MANY_ROWS = 4;

    private final Table[] tables = new Table[MAX_TABLES];
    private int tableCount;
    private final View[] views = new View[MAX_VIEWS];
    private int viewCount;
    private final Rows draft = new Rows(DRAFT_ROWS);
    private View draftView;
    private final Conflict found = new Conflict();
    private final Trials trials = new Trials();
    private int undoCount;

    public Lensbench() {
    }

    // ---- tables

    public int table(int columns, int key) throws IllegalArgumentException, IllegalStateException {
        if (columns < 1 || columns > ALL_COLUMNS || key == 0 || (key & ~columns) != 0) {
            throw new IllegalArgumentException("columns or key out of range");
        }
        if (tableCount >= MAX_TABLES) {
            throw new IllegalStateException("no more tables");
        }
        tables[tableCount] = new Table(columns, key);
        tableCount++;
        return tableCount - 1;
    }

    public int insert(int table, int row)
            throws IndexOutOfBoundsException, IllegalArgumentException, IllegalStateException {
        Table into = tableAt(table);
        if (into == null) {
            throw new IndexOutOfBoundsException("no such table");
        }
        if (!Digits.isRow(row, into.columns)) {
            throw new IllegalArgumentException("row out of range");
        }
        if (into.rows.size() >= TABLE_ROWS || into.rows.firstLike(row, into.key) != NONE) {
            throw new IllegalStateException("key taken, or table full");
        }
        into.rows.put(row);
        showViews();
        return into.rows.size();
    }

    public int delete(int table, int row) throws IndexOutOfBoundsException, NoSuchElementException {
        Table from = tableAt(table);
        if (from == null) {
            throw new IndexOutOfBoundsException("no such table");
        }
        if (!from.rows.has(row)) {
            throw new NoSuchElementException("no such row");
        }
        from.rows.remove(row);
        showViews();
        return from.rows.size();
    }

    // ---- views

    public int of(int table) throws IndexOutOfBoundsException, IllegalStateException {
        Table source = tableAt(table);
        if (source == null) {
            throw new IndexOutOfBoundsException("no such table");
        }
        if (viewCount >= MAX_VIEWS) {
            throw new IllegalStateException("no more views");
        }
        return keepView(new TableView(viewCount, source, 1 << table));
    }

    public int select(int view, int column, int value, boolean isSame)
            throws IndexOutOfBoundsException, IllegalArgumentException, IllegalStateException {
        View source = viewAt(view);
        if (source == null) {
            throw new IndexOutOfBoundsException("no such view");
        }
        if (!Digits.isColumn(column, source.columns) || !Digits.isValue(value)) {
            throw new IllegalArgumentException("column or value out of range");
        }
        if (viewCount >= MAX_VIEWS) {
            throw new IllegalStateException("no more views");
        }
        return keepView(new SelectView(viewCount, source, column, value, isSame));
    }

    public int drop(int view, int column, int value)
            throws IndexOutOfBoundsException, IllegalArgumentException, IllegalStateException {
        View source = viewAt(view);
        if (source == null) {
            throw new IndexOutOfBoundsException("no such view");
        }
        if (!Digits.isColumn(column, source.columns & ~source.key) || !Digits.isValue(value)) {
            throw new IllegalArgumentException("column or value out of range");
        }
        if (viewCount >= MAX_VIEWS) {
            throw new IllegalStateException("no more views");
        }
        return keepView(new DropView(viewCount, source, column, value));
    }

    public int join(int view, int other)
            throws IndexOutOfBoundsException, IllegalArgumentException, IllegalStateException {
        View left = viewAt(view);
        View right = viewAt(other);
        if (left == null || right == null) {
            throw new IndexOutOfBoundsException("no such view");
        }
        if ((left.tables & right.tables) != 0 || (right.key & ~left.columns) != 0) {
            throw new IllegalArgumentException("views that cannot be joined");
        }
        if (viewCount >= MAX_VIEWS) {
            throw new IllegalStateException("no more views");
        }
        return keepView(new JoinView(viewCount, left, right));
    }

    public int columns(int view) throws IndexOutOfBoundsException {
        View asked = viewAt(view);
        if (asked == null) {
            throw new IndexOutOfBoundsException("no such view");
        }
        return asked.columns;
    }

    public int key(int view) throws IndexOutOfBoundsException {
        View asked = viewAt(view);
        if (asked == null) {
            throw new IndexOutOfBoundsException("no such view");
        }
        return asked.key;
    }

    public int rows(int view) throws IndexOutOfBoundsException {
        View asked = viewAt(view);
        if (asked == null) {
            throw new IndexOutOfBoundsException("no such view");
        }
        return asked.shown.size();
    }

    public int row(int view, int place) throws IndexOutOfBoundsException {
        View asked = viewAt(view);
        if (asked == null || place < 0 || place >= asked.shown.size()) {
            throw new IndexOutOfBoundsException("no such view or place");
        }
        return asked.shown.at(place);
    }

    // ---- drafts

    public int open(int view) throws IndexOutOfBoundsException {
        View asked = viewAt(view);
        if (asked == null) {
            throw new IndexOutOfBoundsException("no such view");
        }
        draftView = asked;
        draft.takeOver(asked.shown);
        return draft.size();
    }

    public int add(int row) throws IllegalStateException, IllegalArgumentException {
        if (draftView == null || draft.has(row) || draft.size() >= DRAFT_ROWS) {
            throw new IllegalStateException("no draft, row is there, or draft full");
        }
        if (!Digits.isRow(row, draftView.columns)) {
            throw new IllegalArgumentException("row out of range");
        }
        draft.put(row);
        return draft.size();
    }

    public int takeOut(int row) throws IllegalStateException, NoSuchElementException {
        if (draftView == null) {
            throw new IllegalStateException("no draft");
        }
        if (!draft.has(row)) {
            throw new NoSuchElementException("no such row");
        }
        draft.remove(row);
        return draft.size();
    }

    public int change(int row, int column, int value)
            throws IllegalStateException, IllegalArgumentException, NoSuchElementException {
        if (draftView == null) {
            throw new IllegalStateException("no draft");
        }
        if (!Digits.isColumn(column, draftView.columns) || !Digits.isValue(value)) {
            throw new IllegalArgumentException("column or value out of range");
        }
        if (!draft.has(row)) {
            throw new NoSuchElementException("no such row");
        }
        int changed = Digits.with(row, column, value);
        if (changed != row && draft.has(changed)) {
            throw new NoSuchElementException("the new row is there");
        }
        draft.remove(row);
        draft.put(changed);
        return changed;
    }

    public int draftRow(int place) throws IllegalStateException, IndexOutOfBoundsException {
        if (draftView == null) {
            throw new IllegalStateException("no draft");
        }
        if (place < 0) {
            throw new IndexOutOfBoundsException("no such place");
        }
        return draft.at(place);
    }

    public int conflict() throws IllegalStateException {
        if (draftView == null) {
            throw new IllegalStateException("no draft");
        }
        planPutBack();
        return found.told;
    }

    public int conflictRow(int which) throws IllegalStateException, IllegalArgumentException {
        if (draftView == null) {
            throw new IllegalStateException("no draft");
        }
        if (which != 0 && which != 1) {
            throw new IllegalArgumentException("which out of range");
        }
        planPutBack();
        return which == 0 ? found.first : found.second;
    }

    public int changes() throws IllegalStateException {
        if (draftView == null) {
            throw new IllegalStateException("no draft");
        }
        planPutBack();
        return found.isTold() ? NONE : countPlanned();
    }

    public int fewest() throws IllegalStateException {
        if (draftView == null) {
            throw new IllegalStateException("no draft");
        }
        Table only = onlyTable(draftView.tables);
        if (only == null || !Trials.canTry(only)) {
            throw new IllegalStateException("no table whose rows can be tried");
        }
        return trials.fewestChanges(draftView, only, draft);
    }

    public int putBack() throws IllegalStateException {
        if (draftView == null) {
            throw new IllegalStateException("no draft");
        }
        planPutBack();
        if (found.isTold()) {
            throw new IllegalStateException("conflict");
        }
        int changed = countPlanned();
        carryOut();
        draftView = null;
        return changed;
    }

    public int undo() throws IllegalStateException {
        if (undoCount <= 0) {
            throw new IllegalStateException("nothing to undo");
        }
        undoCount--;
        for (int i = 0; i < tableCount; i++) {
            Table table = tableAt(i);
            if (table != null) {
                table.recall(undoCount);
            }
        }
        showViews();
        return undoCount;
    }

    // ---- what the calls share

    private Table tableAt(int number) {
        return number < 0 || number >= tableCount || number >= tables.length ? null : tables[number];
    }

    private View viewAt(int number) {
        return number < 0 || number >= viewCount || number >= views.length ? null : views[number];
    }

    private Table onlyTable(int set) {
        for (int i = 0; i < tableCount; i++) {
            if (set == 1 << i) {
                return tableAt(i);
            }
        }
        return null;
    }

    private int keepView(View made) {
        made.show();
        if (viewCount >= 0 && viewCount < views.length) {
            views[viewCount] = made;
            viewCount++;
        }
        return made.number;
    }

    // A view is made of views with lower numbers, so these show the tables as they are already.
    private void showViews() {
        for (int i = 0; i < viewCount; i++) {
            View view = viewAt(i);
            if (view != null) {
                view.show();
            }
        }
    }

    private void planPutBack() {
        for (int i = 0; i < tableCount; i++) {
            Table table = tableAt(i);
            if (table != null) {
                table.wanted.takeOver(table.rows);
            }
        }
        found.clear();
        if (draftView != null) {
            draftView.wanted.takeOver(draft);
            passDown(draftView, found, 0);
        }
    }

    // The right view comes first: the conflicts are told in this order.
    private static void passDown(View view, Conflict found, int depth) {
        if (view == null || depth >= MAX_VIEWS || found.isTold()) {
            return;
        }
        view.seekConflict(found);
        if (found.isTold()) {
            return;
        }
        view.passOn();
        passDown(view.right, found, depth + 1);
        passDown(view.left, found, depth + 1);
    }

    private int countPlanned() {
        int count = 0;
        for (int i = 0; i < tableCount; i++) {
            Table table = tableAt(i);
            if (table != null) {
                count += table.rows.countMissingIn(table.wanted) + table.wanted.countMissingIn(table.rows);
            }
        }
        return count;
    }

    private void carryOut() {
        for (int i = 0; i < tableCount; i++) {
            Table table = tableAt(i);
            if (table != null) {
                table.remember(undoCount);
                table.rows.takeOver(table.wanted);
            }
        }
        undoCount = Math.min(undoCount + 1, MAX_UNDOS);
        showViews();
    }

    private static final class Digits {
        static boolean isIn(int column, int columns) {
            return (columns >> column & 1) == 1;
        }

        // The range is asked first: a shift by 32 or more begins again at column 0.
        static boolean isColumn(int column, int columns) {
            return column >= 0 && column < COLUMNS && isIn(column, columns);
        }

        static boolean isValue(int value) {
            return value >= 0 && value <= MAX_VALUE;
        }

        static boolean isRow(int row, int columns) {
            return row >= 0 && row <= MAX_ROW && part(row, columns) == row;
        }

        static int digit(int row, int column) {
            int rest = row;
            for (int c = 0; c < column && c < COLUMNS; c++) {
                rest = rest / 10;
            }
            return rest % 10;
        }

        static int told(int column, int value) {
            int number = value;
            for (int c = 0; c < column && c < COLUMNS; c++) {
                number = number * 10;
            }
            return number;
        }

        static int with(int row, int column, int value) {
            return row - told(column, digit(row, column)) + told(column, value);
        }

        static int part(int row, int columns) {
            int kept = 0;
            int rest = row;
            int power = 1;
            for (int c = 0; c < COLUMNS; c++) {
                if (isIn(c, columns)) {
                    kept += rest % 10 * power;
                }
                rest = rest / 10;
                power = power * 10;
            }
            return kept;
        }

        static boolean alike(int row, int other, int columns) {
            int rest = row;
            int otherRest = other;
            for (int c = 0; c < COLUMNS && rest != otherRest; c++) {
                if ((columns >> c & 1) == 1 && rest % 10 != otherRest % 10) {
                    return false;
                }
                rest = rest / 10;
                otherRest = otherRest / 10;
            }
            return true;
        }
    }

    // A set of rows, in order.
    private static final class Rows {
        private final int[] numbers;
        private int count;

        Rows(int room) {
            numbers = new int[room < 0 ? 0 : room];
        }

        int size() {
            return count;
        }

        int at(int place) {
            return place < 0 || place >= count || place >= numbers.length ? NONE : numbers[place];
        }

        boolean has(int row) {
            for (int i = 0; i < count && i < numbers.length; i++) {
                if (numbers[i] == row) {
                    return true;
                }
            }
            return false;
        }

        int firstLike(int row, int columns) {
            for (int i = 0; i < count; i++) {
                if (Digits.alike(at(i), row, columns)) {
                    return at(i);
                }
            }
            return NONE;
        }

        int countMissingIn(Rows other) {
            int missing = 0;
            for (int i = 0; i < count; i++) {
                if (!other.has(at(i))) {
                    missing++;
                }
            }
            return missing;
        }

        void clear() {
            count = 0;
        }

        void put(int row) {
            if (count >= numbers.length || has(row)) {
                return;
            }
            int place = count;
            while (place > 0 && numbers[place - 1] > row) {
                numbers[place] = numbers[place - 1];
                place--;
            }
            numbers[place] = row;
            count++;
        }

        void remove(int row) {
            int kept = 0;
            for (int i = 0; i < count && i < numbers.length; i++) {
                if (numbers[i] != row) {
                    numbers[kept] = numbers[i];
                    kept++;
                }
            }
            count = kept;
        }

        void takeOver(Rows other) {
            count = Math.min(other.count, numbers.length);
            for (int i = 0; i < count; i++) {
                numbers[i] = other.at(i);
            }
        }
    }

    private static final class Table {
        final int columns;
        final int key;
        final Rows rows = new Rows(TABLE_ROWS);
        final Rows wanted = new Rows(TABLE_ROWS);
        // Empty where a draft was put back before this table was made.
        private final Rows[] past = new Rows[MAX_UNDOS];

        Table(int columns, int key) {
            this.columns = columns;
            this.key = key;
            for (int i = 0; i < past.length; i++) {
                past[i] = new Rows(TABLE_ROWS);
            }
        }

        void remember(int undos) {
            int slot = undos;
            if (slot >= past.length) {
                forgetOldest();
                slot = past.length - 1;
            }
            if (slot >= 0 && past[slot] != null) {
                past[slot].takeOver(rows);
            }
        }

        private void forgetOldest() {
            for (int i = 0; i + 1 < past.length; i++) {
                if (past[i] != null && past[i + 1] != null) {
                    past[i].takeOver(past[i + 1]);
                }
            }
        }

        void recall(int slot) {
            if (slot >= 0 && slot < past.length && past[slot] != null) {
                rows.takeOver(past[slot]);
            }
        }
    }

    private static final class Conflict {
        int told;
        int first = NONE;
        int second = NONE;

        boolean isTold() {
            return told != 0;
        }

        void clear() {
            tell(0, NONE, NONE);
        }

        void tell(int number, int row, int other) {
            told = number;
            first = row;
            second = other;
        }

        void seekPair(View view, int kind, int key, int columns) {
            Rows rows = view.wanted;
            for (int i = 0; i < rows.size(); i++) {
                for (int j = i + 1; j < rows.size(); j++) {
                    int row = rows.at(i);
                    int other = rows.at(j);
                    if (Digits.alike(row, other, key) && !Digits.alike(row, other, columns)) {
                        tell(10 * view.number + kind, row, other);
                        return;
                    }
                }
            }
        }
    }

    private abstract static class View {
        final int number;
        final int columns;
        final int key;
        final int tables;
        final View left;
        final View right;
        final Rows shown = new Rows(TABLE_ROWS);
        final Rows wanted = new Rows(WANTED_ROWS);

        View(int number, int columns, int key, int tables, View left, View right) {
            this.number = number;
            this.columns = columns;
            this.key = key;
            this.tables = tables;
            this.left = left;
            this.right = right;
        }

        abstract void show();

        abstract void passOn();

        abstract void seekOwnConflict(Conflict found);

        boolean selects(int row) {
            return true;
        }

        final void seekConflict(Conflict found) {
            found.seekPair(this, SAME_KEY, key, columns);
            if (!found.isTold()) {
                seekOwnConflict(found);
            }
        }

        final boolean wantsKeyOf(int row) {
            return wanted.firstLike(row, key) != NONE;
        }

        final void wantParts(Rows whole) {
            wanted.clear();
            for (int i = 0; i < whole.size(); i++) {
                wanted.put(Digits.part(whole.at(i), columns));
            }
        }
    }

    private static final class TableView extends View {
        private final Table table;

        TableView(int number, Table table, int tables) {
            super(number, table.columns, table.key, tables, null, null);
            this.table = table;
        }

        void show() {
            shown.takeOver(table.rows);
        }

        void seekOwnConflict(Conflict found) {
            if (wanted.size() > TABLE_ROWS) {
                found.tell(10 * number + TOO_MANY_ROWS, NONE, NONE);
            }
        }

        void passOn() {
            table.wanted.takeOver(wanted);
        }
    }

    private static final class SelectView extends View {
        private final View source;
        private final int column;
        private final int value;
        private final boolean isSame;

        SelectView(int number, View source, int column, int value, boolean isSame) {
            super(number, source.columns, source.key, source.tables, source, null);
            this.source = source;
            this.column = column;
            this.value = value;
            this.isSame = isSame;
        }

        boolean selects(int row) {
            return (Digits.digit(row, column) == value) == isSame;
        }

        void show() {
            shown.clear();
            for (int i = 0; i < source.shown.size(); i++) {
                int row = source.shown.at(i);
                if (selects(row)) {
                    shown.put(row);
                }
            }
        }

        void seekOwnConflict(Conflict found) {
            for (int i = 0; i < wanted.size(); i++) {
                int row = wanted.at(i);
                if (!selects(row)) {
                    found.tell(10 * number + NOT_SELECTED, row, NONE);
                    return;
                }
            }
        }

        void passOn() {
            source.wanted.takeOver(wanted);
            for (int i = 0; i < source.shown.size(); i++) {
                int row = source.shown.at(i);
                if (!selects(row) && !wantsKeyOf(row)) {
                    source.wanted.put(row);
                }
            }
        }
    }

    private static final class DropView extends View {
        private final View source;
        private final int column;
        private final int value;

        DropView(int number, View source, int column, int value) {
            super(number, source.columns & ~(1 << column), source.key, source.tables, source, null);
            this.source = source;
            this.column = column;
            this.value = value;
        }

        void show() {
            shown.clear();
            for (int i = 0; i < source.shown.size(); i++) {
                shown.put(Digits.part(source.shown.at(i), columns));
            }
        }

        void seekOwnConflict(Conflict found) {
        }

        void passOn() {
            source.wanted.clear();
            for (int i = 0; i < wanted.size(); i++) {
                int row = wanted.at(i);
                source.wanted.put(Digits.with(row, column, hiddenValue(row)));
            }
        }

        private int hiddenValue(int row) {
            int whole = source.shown.firstLike(row, key);
            return whole == NONE ? value : Digits.digit(whole, column);
        }
    }

    private static final class JoinView extends View {
        private final View one;
        private final View other;
        private final int common;

        JoinView(int number, View left, View right) {
            super(number, left.columns | right.columns, left.key, left.tables | right.tables, left, right);
            one = left;
            other = right;
            common = left.columns & right.columns;
        }

        // The columns in common hold the key of the right view: a row has one match at most.
        void show() {
            shown.clear();
            for (int i = 0; i < one.shown.size(); i++) {
                int row = one.shown.at(i);
                int match = other.shown.firstLike(row, common);
                if (match != NONE) {
                    shown.put(row + Digits.part(match, other.columns & ~one.columns));
                }
            }
        }

        void seekOwnConflict(Conflict found) {
            found.seekPair(this, UNLIKE_PARTS, other.key, other.columns);
        }

        // The left view is second: its rows stay only where the right one's new rows miss them.
        void passOn() {
            other.wantParts(wanted);
            for (int i = 0; i < other.shown.size(); i++) {
                int row = other.shown.at(i);
                if (!other.wantsKeyOf(row)) {
                    other.wanted.put(row);
                }
            }
            one.wantParts(wanted);
            for (int i = 0; i < one.shown.size(); i++) {
                int row = one.shown.at(i);
                if (!one.wantsKeyOf(row) && other.wanted.firstLike(row, common) == NONE) {
                    one.wanted.put(row);
                }
            }
        }
    }

    // A set of the rows that are tried is told by bits; its arrays are used by every call again.
    private static final class Trials {
        private final int[] tried = new int[TRIED_ROWS];
        private final int[] rivals = new int[TRIED_ROWS];
        private int count;
        private int held;
        private int seen;
        private int unwanted;

        static boolean canTry(Table table) {
            if (Integer.bitCount(table.columns) > TRIED_COLUMNS) {
                return false;
            }
            for (int i = 0; i < table.rows.size(); i++) {
                if (hasGreatValue(table.rows.at(i))) {
                    return false;
                }
            }
            return true;
        }

        private static boolean hasGreatValue(int row) {
            for (int c = 0; c < COLUMNS; c++) {
                if (Digits.digit(row, c) > TRIED_VALUE) {
                    return true;
                }
            }
            return false;
        }

        // Rows with unlike keys are shown as unlike rows, so it is enough to count those seen.
        int fewestChanges(View view, Table table, Rows draft) {
            listRows(table.columns);
            sortRows(view, table, draft);
            int fewest = NONE;
            for (int set = 0; set < 1 << count; set++) {
                if ((set & unwanted) == 0 && Integer.bitCount(set & seen) == draft.size() && hasUnlikeKeys(set)) {
                    int changed = Integer.bitCount(set ^ held);
                    fewest = fewest == NONE ? changed : Math.min(fewest, changed);
                }
            }
            return fewest;
        }

        private void listRows(int columns) {
            tried[0] = 0;
            count = 1;
            for (int c = 0; c < COLUMNS; c++) {
                int before = Digits.isIn(c, columns) ? count : 0;
                for (int i = 0; i < TRIED_VALUE * before && count < tried.length; i++) {
                    tried[count] = tried[i] + Digits.told(c, 1);
                    count++;
                }
            }
        }

        private void sortRows(View view, Table table, Rows draft) {
            held = 0;
            seen = 0;
            unwanted = 0;
            for (int i = 0; i < count && i < tried.length; i++) {
                int bit = 1 << i;
                if (table.rows.has(tried[i])) {
                    held |= bit;
                }
                if (isSeen(view, tried[i])) {
                    seen |= bit;
                    if (!draft.has(Digits.part(tried[i], view.columns))) {
                        unwanted |= bit;
                    }
                }
                rivals[i] = rivalsOf(i, table.key);
            }
        }

        private int rivalsOf(int place, int key) {
            int set = 0;
            for (int i = 0; i < count && i < tried.length && place < tried.length; i++) {
                if (i != place && Digits.alike(tried[i], tried[place], key)) {
                    set |= 1 << i;
                }
            }
            return set;
        }

        // A view drops columns and changes no value, so each selection can be asked of the whole row.
        private static boolean isSeen(View view, int row) {
            for (View at = view; at != null; at = at.left) {
                if (!at.selects(row)) {
                    return false;
                }
            }
            return true;
        }

        private boolean hasUnlikeKeys(int set) {
            for (int i = 0; i < count && i < rivals.length; i++) {
                if ((set >> i & 1) == 1 && (set & rivals[i]) != 0) {
                    return false;
                }
            }
            return true;
        }
    }
}
