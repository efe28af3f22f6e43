import java.util.Arrays;

/** Forms of told and worked out decimals, with rows that repeat, checks and pages; see README.md. */
public final class FormSheet {
    public static final int NONE = -1;

    private static final int TEXT_MOST = 60;
    private static final int ITEMS_MOST = 16;
    private static final int ROWS_MOST = 4;
    // One cell for each item and row: 64 of them, so that a long can be a set of cells.
    private static final int CELLS = ITEMS_MOST * ROWS_MOST;
    private static final int BRACKETS_MOST = 6;
    private static final int NAME_LETTERS_MOST = 2;
    private static final int WHOLE_DIGITS_MOST = 6;
    private static final int DECIMAL_DIGITS_MOST = 2;
    private static final int CAPTION_MOST = 36;
    private static final int CAPTION_WIDTH = 12;
    private static final int HEIGHT_LEAST = 4;
    private static final int HEIGHT_MOST = 20;
    // A page is only begun for an item or a block, and of these there are no more than cells.
    private static final int PAGES_MOST = CELLS;

    private static final long LIMIT = 1_000_000_000_000_000L;
    // The most that rounds to LIMIT when it is divided by 100 (its half goes to LIMIT, which is even).
    private static final long PRODUCT_MOST = 100 * LIMIT + 50;
    // An outcome is one long: a value within the limits, or this and a fault's number.
    private static final long FAULTY = 10 * LIMIT;
    private static final long BEYOND = FAULTY + 1;
    private static final long BY_ZERO = FAULTY + 2;
    private static final long CIRCLE = FAULTY + 3;

    private static final char FIELD = 'f';
    private static final char CHECK = '!';
    private static final char CAPTION = '"';

    // The kinds of parts; an operation's kind is its own sign.
    private static final char NUMBER = '0';
    private static final char NAME = 'a';
    private static final char TOTAL = '#';
    private static final char CHOICE = '?';

    private int errorAt = NONE;
    private boolean closed = false;
    private final Text text;
    private final Form form;
    private final Values values;
    private final Layout layout;

    public FormSheet(int height) {
        text = new Text();
        form = new Form();
        values = new Values(form);
        layout = new Layout(form, values, Math.max(HEIGHT_LEAST, Math.min(HEIGHT_MOST, height)));
    }

    public boolean write(long w) {
        return text.append(w);
    }

    public int add() throws IllegalArgumentException, IllegalStateException {
        Item item = text.takeItem();
        errorAt = item == null ? text.reached() : NONE;
        if (item == null) {
            throw new IllegalArgumentException("the text is no item");
        }
        if (closed || !form.canTake(item)) {
            throw new IllegalStateException("the form can't take the item");
        }
        return form.take(item);
    }

    public int position() {
        return errorAt;
    }

    public int close() throws IllegalArgumentException, IllegalStateException {
        if (closed) {
            throw new IllegalStateException("the form is closed");
        }
        if (!form.resolveNames()) {
            throw new IllegalArgumentException("a name is not as it must be");
        }
        closed = true;
        values.forgetAll();
        values.workOutAll();
        layout.layOut();
        return form.valueCount();
    }

    public void clear() {
        closed = false;
        form.empty();
    }

    public int rows(int n) {
        if (!closed || n < 0 || n > ROWS_MOST) {
            return NONE;
        }
        values.forgetRowsFrom(Math.min(n, form.rowCount));
        form.rowCount = n;
        values.workOutAll();
        layout.layOut();
        return form.valueCount();
    }

    public int set(int item, int row, long value) {
        if (!isThere(item, row) || !form.isTold(item) || value < -LIMIT || value > LIMIT) {
            return NONE;
        }
        int anew = values.tell(cellOf(item, row), value);
        layout.layOut();
        return anew;
    }

    public long get(int item, int row) {
        if (!isThere(item, row) || !form.isField(item)) {
            return 0;
        }
        long outcome = values.outcomeOf(item, row);
        return isFault(outcome) ? 0 : outcome;
    }

    public int fault(int item, int row) {
        if (!isThere(item, row) || form.isCaption(item)) {
            return NONE;
        }
        if (form.isCheck(item)) {
            return values.fails(item, row) ? 1 : 0;
        }
        long outcome = values.outcomeOf(item, row);
        return isFault(outcome) ? (int) (outcome - FAULTY) : 0;
    }

    public int message(int k) {
        int found = 0;
        if (closed) {
            for (int item = 0; item < form.size; item++) {
                for (int row = 0; row < form.rowsOf(item); row++) {
                    if (values.fails(item, row)) {
                        if (found == k) {
                            return 8 * item + row;
                        }
                        found++;
                    }
                }
            }
        }
        return k == -1 ? found : NONE;
    }

    public int place(int item, int row) {
        return isThere(item, row) ? layout.placeOf(item, row) : NONE;
    }

    public int pages() {
        return closed ? layout.pageCount() : 0;
    }

    public int line(int page, int line) {
        return closed ? layout.standsAt(page, line) : NONE;
    }

    public int count(int what) {
        switch (what) {
            case 0:
                return form.size;
            case 1:
                return form.rowCount;
            case 2:
                return layout.height;
            case 3:
                return closed ? 1 : 0;
            case 4:
                return closed ? values.faultCount() : 0;
            default:
                return NONE;
        }
    }

    private boolean isThere(int item, int row) {
        return closed && form.has(item, row);
    }

    private static int cellOf(int item, int row) {
        return item * ROWS_MOST + row;
    }

    private static boolean isFault(long outcome) {
        return outcome > LIMIT;
    }

    private static boolean isLetter(char c) {
        return c >= 'a' && c <= 'z';
    }

    private static boolean isDigit(char c) {
        return c >= '0' && c <= '9';
    }

    /** Arithmetic of outcomes that are no faults. */
    private static final class Decimals {
        static long limited(long value) {
            return value < -LIMIT || value > LIMIT ? BEYOND : value;
        }

        static long product(long x, long y) {
            long a = Math.abs(x);
            long b = Math.abs(y);
            if (a == 0) {
                return 0;
            }
            // Asked by a division, as the product itself may not fit into a long.
            if (b > PRODUCT_MOST / a) {
                return BEYOND;
            }
            long size = rounded(a * b, 100);
            return limited(x < 0 != y < 0 ? -size : size);
        }

        static long quotient(long x, long y) {
            if (y == 0) {
                return BY_ZERO;
            }
            long size = rounded(100 * Math.abs(x), Math.abs(y));
            return limited(x < 0 != y < 0 ? -size : size);
        }

        /** Takes sizes alone: half to even is the same on both sides of 0. */
        private static long rounded(long size, long divisor) {
            if (divisor <= 0) {
                return 0;
            }
            long whole = size / divisor;
            long twiceLeft = 2 * (size % divisor);
            boolean up = twiceLeft > divisor || twiceLeft == divisor && (whole & 1) == 1;
            return up ? whole + 1 : whole;
        }
    }

    /** An expression. Reading refuses what is deeper than BRACKETS_MOST, so to go over its parts never goes deep. */
    private static final class Part {
        final char kind;
        final long number;
        final int name;
        final Part first;
        final Part second;
        final Part third;
        /** The field that the name means; known from closing on. */
        int item = NONE;

        /** A number, or a name with or without #. */
        Part(char kind, long number, int name) {
            this.kind = kind;
            this.number = number;
            this.name = name;
            this.first = null;
            this.second = null;
            this.third = null;
        }

        /** An operation; the third part is null for all but the choice. */
        Part(char kind, Part first, Part second, Part third) {
            this.kind = kind;
            this.number = 0;
            this.name = 0;
            this.first = first;
            this.second = second;
            this.third = third;
        }
    }

    private static final class Item {
        final char kind;
        final int name;
        final boolean repeats;
        /** Null for what is not worked out: told fields and captions. */
        final Part expression;
        final int captionLines;

        Item(char kind, int name, boolean repeats, Part expression, int captionLines) {
            this.kind = kind;
            this.name = name;
            this.repeats = repeats;
            this.expression = expression;
            this.captionLines = captionLines;
        }
    }

    /**
     * The text, and its reading as an item. Reading goes forward only over characters that some item
     * has there, so where it stops short is the position of the error.
     */
    private static final class Text {
        private final char[] codes = new char[TEXT_MOST];
        private int length = 0;
        private int at = 0;

        /** False if what w holds can't be appended; then nothing of it is. */
        boolean append(long w) {
            int more = 0;
            for (int shift = 56; shift >= 0; shift -= 8) {
                int code = codeIn(w, shift);
                if (code != 0 && (code < 32 || code > 126)) {
                    return false;
                }
                more += code != 0 ? 1 : 0;
            }
            if (more > TEXT_MOST - length) {
                return false;
            }
            for (int shift = 56; shift >= 0; shift -= 8) {
                int code = codeIn(w, shift);
                if (code != 0 && length < TEXT_MOST) {
                    codes[length] = (char) code;
                    length++;
                }
            }
            return true;
        }

        /** The text is empty then; null if it was no item. */
        Item takeItem() {
            at = 0;
            Item item = null;
            if (isLetter(next())) {
                item = fieldItem();
            } else if (skip('!')) {
                item = checkItem();
            } else if (skip('"')) {
                item = captionItem();
            }
            boolean whole = at == length;
            length = 0;
            return whole ? item : null;
        }

        /** How far the latest text that was taken has been read. */
        int reached() {
            return at;
        }

        private static int codeIn(long w, int shift) {
            return (int) (w >>> shift & 255);
        }

        private Item fieldItem() {
            int name = nameCode();
            boolean repeats = skip('*');
            if (!skip('=')) {
                return new Item(FIELD, name, repeats, null, 0);
            }
            Part expression = expression(0);
            return expression == null ? null : new Item(FIELD, name, repeats, expression, 0);
        }

        private Item checkItem() {
            boolean repeats = skip('*');
            Part expression = expression(0);
            return expression == null ? null : new Item(CHECK, 0, repeats, expression, 0);
        }

        private Item captionItem() {
            int wide = Math.min(length - at, CAPTION_MOST);
            at += wide;
            int lines = (wide + CAPTION_WIDTH - 1) / CAPTION_WIDTH;
            return wide == 0 ? null : new Item(CAPTION, 0, false, null, lines);
        }

        /** Null if there is no expression here; depth is how many brackets are open. */
        private Part expression(int depth) {
            if (isDigit(next())) {
                return number();
            }
            if (isLetter(next())) {
                return new Part(NAME, 0, nameCode());
            }
            if (skip('#')) {
                return isLetter(next()) ? new Part(TOTAL, 0, nameCode()) : null;
            }
            return depth < BRACKETS_MOST && skip('(') ? inBrackets(depth + 1) : null;
        }

        private Part inBrackets(int depth) {
            Part first = expression(depth);
            char sign = next();
            if (first == null || !isSign(sign) || !skip(sign)) {
                return null;
            }
            Part second = expression(depth);
            if (second == null) {
                return null;
            }
            Part third = null;
            if (sign == CHOICE) {
                third = skip(':') ? expression(depth) : null;
                if (third == null) {
                    return null;
                }
            }
            return skip(')') ? new Part(sign, first, second, third) : null;
        }

        private Part number() {
            long hundredths = 100 * digits(WHOLE_DIGITS_MOST);
            if (skip('.')) {
                if (!isDigit(next())) {
                    return null;
                }
                int begin = at;
                long decimals = digits(DECIMAL_DIGITS_MOST);
                hundredths += at - begin == 1 ? 10 * decimals : decimals;
            }
            return new Part(NUMBER, hundredths, 0);
        }

        private long digits(int most) {
            long value = 0;
            for (int i = 0; i < most && isDigit(next()); i++) {
                value = 10 * value + (next() - '0');
                at++;
            }
            return value;
        }

        /** A second letter makes another name of it, so both are in the code. */
        private int nameCode() {
            int code = 0;
            for (int i = 0; i < NAME_LETTERS_MOST && isLetter(next()); i++) {
                code = 128 * code + next();
                at++;
            }
            return code;
        }

        /** 0, which no text has, at the end. */
        private char next() {
            return at < length ? codes[at] : 0;
        }

        private boolean skip(char wanted) {
            if (next() != wanted) {
                return false;
            }
            at++;
            return true;
        }

        private static boolean isSign(char c) {
            return c == '+' || c == '-' || c == '*' || c == '/' || c == '<' || c == '=' || c == CHOICE;
        }
    }

    /** The items and how many rows they have. */
    private static final class Form {
        final Item[] items = new Item[ITEMS_MOST];
        int size = 0;
        int rowCount = 1;

        void empty() {
            size = 0;
            rowCount = 1;
        }

        boolean canTake(Item item) {
            return size < ITEMS_MOST && (item.kind != FIELD || fieldNamed(item.name) == NONE);
        }

        /** The item's number. */
        int take(Item item) {
            if (size >= ITEMS_MOST) {
                return NONE;
            }
            items[size] = item;
            size++;
            return size - 1;
        }

        int rowsOf(int item) {
            if (item < 0 || item >= size) {
                return 0;
            }
            return items[item].repeats ? rowCount : 1;
        }

        boolean has(int item, int row) {
            return row >= 0 && row < rowsOf(item);
        }

        boolean isField(int item) {
            return isOfKind(item, FIELD);
        }

        boolean isCheck(int item) {
            return isOfKind(item, CHECK);
        }

        boolean isCaption(int item) {
            return isOfKind(item, CAPTION);
        }

        boolean isTold(int item) {
            return isField(item) && items[item].expression == null;
        }

        boolean repeats(int item) {
            return item >= 0 && item < size && items[item].repeats;
        }

        private boolean isOfKind(int item, char kind) {
            return item >= 0 && item < size && items[item].kind == kind;
        }

        private int fieldNamed(int name) {
            for (int item = 0; item < size; item++) {
                if (isField(item) && items[item].name == name) {
                    return item;
                }
            }
            return NONE;
        }

        int valueCount() {
            int values = 0;
            for (int item = 0; item < size; item++) {
                if (isField(item)) {
                    values += rowsOf(item);
                }
            }
            return values;
        }

        /** False if a name is not as it must be. */
        boolean resolveNames() {
            for (int item = 0; item < size; item++) {
                if (!resolve(items[item].expression, items[item].repeats)) {
                    return false;
                }
            }
            return true;
        }

        private boolean resolve(Part part, boolean inRepeating) {
            if (part == null) {
                return true;
            }
            if (part.kind == NAME || part.kind == TOTAL) {
                part.item = fieldNamed(part.name);
                if (part.item == NONE) {
                    return false;
                }
                return part.kind == TOTAL ? repeats(part.item) : inRepeating || !repeats(part.item);
            }
            return resolve(part.first, inRepeating)
                    && resolve(part.second, inRepeating)
                    && resolve(part.third, inRepeating);
        }
    }

    /** The outcomes of a closed form's fields and checks. */
    private static final class Values {
        private final Form form;
        private final long[] outcomes = new long[CELLS];
        /** For each cell the set of cells that it hangs on. */
        private final long[] hangs = new long[CELLS];
        /** The cells that are worked out, each behind those that it hangs on. */
        private final int[] order = new int[CELLS];
        private int ordered = 0;

        Values(Form form) {
            this.form = form;
        }

        void forgetAll() {
            Arrays.fill(outcomes, 0);
        }

        /** Also of rows that are not there, so that they are 0 when they come. */
        void forgetRowsFrom(int first) {
            for (int item = 0; item < form.size; item++) {
                for (int row = Math.max(first, 0); row < ROWS_MOST && form.repeats(item); row++) {
                    outcomes[cellOf(item, row)] = 0;
                }
            }
        }

        long outcomeOf(int item, int row) {
            return form.has(item, row) ? outcomes[cellOf(item, row)] : 0;
        }

        boolean fails(int item, int row) {
            if (!form.isCheck(item)) {
                return false;
            }
            long outcome = outcomeOf(item, row);
            return outcome == 0 || isFault(outcome);
        }

        int faultCount() {
            int faults = 0;
            for (int item = 0; item < form.size; item++) {
                for (int row = 0; row < form.rowsOf(item) && form.isField(item); row++) {
                    if (isFault(outcomeOf(item, row))) {
                        faults++;
                    }
                }
            }
            return faults;
        }

        /** How many fields were worked out anew. */
        int tell(int cell, long value) {
            if (cell < 0 || cell >= CELLS) {
                return 0;
            }
            outcomes[cell] = value;
            int fields = 0;
            for (int i = 0; i < ordered; i++) {
                if (hangsOn(order[i], cell)) {
                    workOut(order[i]);
                    fields += form.isField(order[i] / ROWS_MOST) ? 1 : 0;
                }
            }
            return fields;
        }

        void workOutAll() {
            link();
            for (int i = 0; i < ordered; i++) {
                workOut(order[i]);
            }
        }

        /** Which cells hang on which depends on the rows, so this comes anew with them. */
        private void link() {
            Arrays.fill(hangs, 0);
            long waiting = 0;
            for (int item = 0; item < form.size; item++) {
                Part expression = form.items[item].expression;
                for (int row = 0; row < form.rowsOf(item) && expression != null; row++) {
                    hangs[cellOf(item, row)] = cellsNamed(expression, row);
                    waiting |= setOf(cellOf(item, row));
                }
            }
            followHangs();
            putInOrder(waiting);
        }

        private long cellsNamed(Part part, int row) {
            if (part == null) {
                return 0;
            }
            if (part.kind == NAME) {
                return setOf(cellNamed(part.item, row));
            }
            if (part.kind == TOTAL) {
                long cells = 0;
                for (int each = 0; each < form.rowsOf(part.item); each++) {
                    cells |= setOf(cellOf(part.item, each));
                }
                return cells;
            }
            return cellsNamed(part.first, row) | cellsNamed(part.second, row) | cellsNamed(part.third, row);
        }

        private int cellNamed(int item, int row) {
            return cellOf(item, form.repeats(item) ? row : 0);
        }

        private void followHangs() {
            for (int between = 0; between < CELLS; between++) {
                for (int cell = 0; cell < CELLS && hangs[between] != 0; cell++) {
                    if (hangsOn(cell, between)) {
                        hangs[cell] |= hangs[between];
                    }
                }
            }
        }

        /** Those in a circle come first: nothing that they hang on can change them. */
        private void putInOrder(long cells) {
            long waiting = cells;
            ordered = 0;
            for (int cell = 0; cell < CELLS; cell++) {
                if (hangsOn(cell, cell)) {
                    append(cell);
                    waiting &= ~setOf(cell);
                }
            }
            for (int round = 0; round < CELLS && waiting != 0; round++) {
                for (int cell = 0; cell < CELLS; cell++) {
                    if ((waiting & setOf(cell)) != 0 && (hangs[cell] & waiting) == 0) {
                        append(cell);
                        waiting &= ~setOf(cell);
                    }
                }
            }
        }

        private void append(int cell) {
            if (ordered < CELLS) {
                order[ordered] = cell;
                ordered++;
            }
        }

        private boolean hangsOn(int cell, int other) {
            return (hangs[cell] & setOf(other)) != 0;
        }

        private static long setOf(int cell) {
            return 1L << cell;
        }

        private void workOut(int cell) {
            int item = cell / ROWS_MOST;
            if (form.has(item, cell % ROWS_MOST)) {
                outcomes[cell] = hangsOn(cell, cell) ? CIRCLE : worth(form.items[item].expression, cell % ROWS_MOST);
            }
        }

        private long worth(Part part, int row) {
            if (part == null) {
                return 0;
            }
            switch (part.kind) {
                case NUMBER:
                    return part.number;
                case NAME:
                    return outcomeOf(part.item, form.repeats(part.item) ? row : 0);
                case TOTAL:
                    return total(part.item);
                default:
                    break;
            }
            long first = worth(part.first, row);
            if (isFault(first)) {
                return first;
            }
            if (part.kind == CHOICE) {
                return worth(first != 0 ? part.second : part.third, row);
            }
            long second = worth(part.second, row);
            return isFault(second) ? second : operate(part.kind, first, second);
        }

        private long total(int item) {
            long sum = 0;
            for (int row = 0; row < form.rowsOf(item); row++) {
                long outcome = outcomes[cellOf(item, row)];
                if (isFault(outcome)) {
                    return outcome;
                }
                sum += outcome;
            }
            return Decimals.limited(sum);
        }

        private static long operate(char sign, long x, long y) {
            switch (sign) {
                case '+':
                    return Decimals.limited(x + y);
                case '-':
                    return Decimals.limited(x - y);
                case '*':
                    return Decimals.product(x, y);
                case '/':
                    return Decimals.quotient(x, y);
                case '<':
                    return x < y ? 100 : 0;
                default:
                    return x == y ? 100 : 0;
            }
        }
    }

    /** Where the items of a closed form stand on pages. */
    private static final class Layout {
        final int height;
        private final Form form;
        private final Values values;
        /** For each line of each page, height lines a page, what stands there. */
        private final int[] lines;
        /** For each page how many of its lines are taken: always its first ones. */
        private final int[] taken = new int[PAGES_MOST];
        private final int[] places = new int[CELLS];
        /** For each cell how many lines it has. */
        private final int[] highs = new int[CELLS];
        private int page = 0;

        Layout(Form form, Values values, int height) {
            this.form = form;
            this.values = values;
            this.height = height;
            this.lines = new int[PAGES_MOST * height];
        }

        int pageCount() {
            return taken[0] == 0 ? 0 : page + 1;
        }

        int placeOf(int item, int row) {
            return form.has(item, row) ? places[cellOf(item, row)] : NONE;
        }

        int standsAt(int atPage, int atLine) {
            if (atPage < 0 || atPage > page || atLine < 0 || atLine >= taken[atPage]) {
                return NONE;
            }
            return lines[atPage * height + atLine];
        }

        void layOut() {
            Arrays.fill(places, NONE);
            Arrays.fill(taken, 0);
            page = 0;
            measure();
            for (int item = 0; item < form.size; item++) {
                if (!form.repeats(item)) {
                    putAlone(item, 0);
                } else if (!form.repeats(item - 1)) {
                    putSection(item);
                }
            }
        }

        private void measure() {
            for (int item = 0; item < form.size; item++) {
                for (int row = 0; row < form.rowsOf(item); row++) {
                    highs[cellOf(item, row)] = linesOf(item, row);
                }
            }
        }

        private int linesOf(int item, int row) {
            if (form.isCaption(item)) {
                return form.items[item].captionLines;
            }
            return form.isField(item) || values.fails(item, row) ? 1 : 0;
        }

        private void putSection(int first) {
            int end = first;
            while (end < form.size && form.repeats(end)) {
                end++;
            }
            for (int row = 0; row < form.rowCount; row++) {
                putBlock(first, end, row);
            }
        }

        private void putBlock(int first, int end, int row) {
            int high = 0;
            for (int item = first; item < end; item++) {
                high += highs[cellOf(item, row)];
            }
            boolean whole = high <= height;
            if (whole && turnPage(high) && row > 0) {
                putHeader(first - 1, high);
            }
            for (int item = first; item < end; item++) {
                if (whole) {
                    putLines(item, row);
                } else {
                    putAlone(item, row);
                }
            }
        }

        private void putHeader(int item, int highBehind) {
            if (form.isCaption(item) && highs[cellOf(item, 0)] + highBehind <= height) {
                putLines(item, 0);
            }
        }

        private void putAlone(int item, int row) {
            turnPage(highs[cellOf(item, row)]);
            putLines(item, row);
        }

        /** Whether what is so high goes to the next page. */
        private boolean turnPage(int high) {
            if (taken[page] == 0 || high <= height - taken[page] || page + 1 >= PAGES_MOST) {
                return false;
            }
            page++;
            return true;
        }

        private void putLines(int item, int row) {
            int cell = cellOf(item, row);
            int high = Math.min(highs[cell], height - taken[page]);
            // A header's caption has its place already.
            if (high > 0 && places[cell] == NONE) {
                places[cell] = 32 * page + taken[page];
            }
            for (int i = 0; i < high; i++) {
                lines[page * height + taken[page]] = 8 * item + row;
                taken[page]++;
            }
        }
    }
}
