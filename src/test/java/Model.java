import java.math.BigDecimal;
import java.math.BigInteger;
import java.math.RoundingMode;
import java.nio.ByteBuffer;
import java.util.ArrayDeque;
import java.util.ArrayList;
import java.util.Collections;
import java.util.Deque;
import java.util.HashMap;
import java.util.HashSet;
import java.util.List;
import java.util.Map;
import java.util.Set;
import java.util.regex.Matcher;
import java.util.regex.Pattern;

/**
 * The document once more, in another way: nothing is kept but what was told, and every answer is worked out from the
 * items' texts when it is asked for.
 */
final class Model {
    private static final BigInteger LIMIT = BigInteger.TEN.pow(15);
    private static final Pattern MENTION = Pattern.compile("#?[a-z]{1,2}");

    /** A value or a fault. */
    record Outcome(int fault, BigInteger value) {
        static Outcome of(long hundredths) {
            return new Outcome(0, BigInteger.valueOf(hundredths));
        }

        static Outcome within(BigInteger value) {
            return value.abs().compareTo(LIMIT) > 0 ? new Outcome(1, BigInteger.ZERO) : new Outcome(0, value);
        }

        boolean isZero() {
            return value.signum() == 0;
        }
    }

    record Cell(int item, int row) {
        int code() {
            return 8 * item + row;
        }
    }

    final int height;
    private String text = "";
    private int errorAt = -1;
    private final List<String> items = new ArrayList<>();
    private boolean closed = false;
    private int rows = 1;
    private final Map<Cell, Long> told = new HashMap<>();
    // What has been asked since the latest change, so that asking all of it does not take too long.
    private final Map<Cell, Outcome> known = new HashMap<>();
    private List<List<Integer>> knownPages = null;
    private List<Cell> knownCells = null;

    Model(int height) {
        this.height = height < 4 ? 4 : height > 20 ? 20 : height;
    }

    boolean write(long w) {
        StringBuilder more = new StringBuilder();
        for (byte b : ByteBuffer.allocate(8).putLong(w).array()) {
            if (b != 0) {
                more.append((char) (b & 255));
            }
        }
        if (!more.toString().matches("[ -~]*") || text.length() + more.length() > 60) {
            return false;
        }
        text += more;
        return true;
    }

    long add() {
        String taken = text;
        text = "";
        errorAt = errorIn(taken);
        if (errorAt >= 0) {
            return Due.ARGUMENT;
        }
        boolean twice = isField(taken) && items.stream().anyMatch(i -> isField(i) && name(i).equals(name(taken)));
        if (closed || items.size() == 16 || twice) {
            return Due.STATE;
        }
        items.add(taken);
        return items.size() - 1;
    }

    int position() {
        return errorAt;
    }

    long close() {
        if (closed) {
            return Due.STATE;
        }
        for (String item : items) {
            Matcher m = MENTION.matcher(expression(item));
            while (m.find()) {
                boolean sum = m.group().startsWith("#");
                int field = fieldNamed(m.group().replace("#", ""));
                if (field < 0 || sum && !repeats(items.get(field))
                        || !sum && repeats(items.get(field)) && !repeats(item)) {
                    return Due.ARGUMENT;
                }
            }
        }
        closed = true;
        forget();
        return fields().size();
    }

    void clear() {
        items.clear();
        told.clear();
        closed = false;
        rows = 1;
        forget();
    }

    private void forget() {
        known.clear();
        knownPages = null;
        knownCells = null;
    }

    int rows(int n) {
        if (n < 0 || n > 4 || !closed) {
            return -1;
        }
        rows = n;
        forget();
        told.keySet().removeIf(cell -> repeats(items.get(cell.item())) && cell.row() >= n);
        return fields().size();
    }

    int set(int item, int row, long value) {
        Cell cell = new Cell(item, row);
        if (!exists(cell) || !isField(items.get(item)) || !expression(items.get(item)).isEmpty()
                || BigInteger.valueOf(value).abs().compareTo(LIMIT) > 0) {
            return -1;
        }
        told.put(cell, value);
        forget();
        return (int) fields().stream().filter(field -> hangsOn(field).contains(cell)).count();
    }

    long get(int item, int row) {
        Cell cell = new Cell(item, row);
        return exists(cell) && isField(items.get(item)) ? outcome(cell).value().longValueExact() : 0;
    }

    int fault(int item, int row) {
        Cell cell = new Cell(item, row);
        if (!exists(cell) || items.get(item).startsWith("\"")) {
            return -1;
        }
        return isField(items.get(item)) ? outcome(cell).fault() : fails(cell) ? 1 : 0;
    }

    int message(int k) {
        List<Cell> failing = cells().stream().filter(this::fails).toList();
        if (k == -1) {
            return failing.size();
        }
        return k >= 0 && k < failing.size() ? failing.get(k).code() : -1;
    }

    int place(int item, int row) {
        List<List<Integer>> pages = allPages();
        for (int page = 0; page < pages.size() && exists(new Cell(item, row)); page++) {
            int line = pages.get(page).indexOf(8 * item + row);
            if (line >= 0) {
                return 32 * page + line;
            }
        }
        return -1;
    }

    int pages() {
        return allPages().size();
    }

    int line(int page, int line) {
        List<List<Integer>> pages = allPages();
        boolean there = page >= 0 && page < pages.size() && line >= 0 && line < pages.get(page).size();
        return there ? pages.get(page).get(line) : -1;
    }

    int count(int what) {
        return switch (what) {
            case 0 -> items.size();
            case 1 -> rows;
            case 2 -> height;
            case 3 -> closed ? 1 : 0;
            case 4 -> (int) fields().stream().filter(cell -> outcome(cell).fault() != 0).count();
            default -> -1;
        };
    }

    // Items as texts.

    private static boolean isField(String item) {
        return Character.isLetter(item.charAt(0));
    }

    private static String name(String item) {
        return item.split("[*=]")[0];
    }

    private static boolean repeats(String item) {
        return item.matches("([a-z]{1,2}|!)\\*.*");
    }

    /** Empty if there is none. */
    private static String expression(String item) {
        if (item.startsWith("!")) {
            return item.substring(repeats(item) ? 2 : 1);
        }
        int at = item.indexOf('=');
        return isField(item) && at >= 0 ? item.substring(at + 1) : "";
    }

    private int fieldNamed(String name) {
        for (int i = 0; i < items.size(); i++) {
            if (isField(items.get(i)) && name(items.get(i)).equals(name)) {
                return i;
            }
        }
        return -1;
    }

    private boolean exists(Cell cell) {
        return cells().contains(cell);
    }

    private List<Cell> cells() {
        knownCells = knownCells == null ? listed() : knownCells;
        return knownCells;
    }

    private List<Cell> listed() {
        List<Cell> cells = new ArrayList<>();
        for (int i = 0; i < items.size() && closed; i++) {
            for (int row = 0; row < (repeats(items.get(i)) ? rows : 1); row++) {
                cells.add(new Cell(i, row));
            }
        }
        return cells;
    }

    private List<Cell> fields() {
        return cells().stream().filter(cell -> isField(items.get(cell.item()))).toList();
    }

    // Values.

    private Set<Cell> hangsOn(Cell cell) {
        Set<Cell> reached = new HashSet<>();
        Deque<Cell> next = new ArrayDeque<>(List.of(cell));
        while (!next.isEmpty()) {
            Cell from = next.pop();
            Matcher m = MENTION.matcher(expression(items.get(from.item())));
            while (m.find()) {
                int field = fieldNamed(m.group().replace("#", ""));
                for (Cell to : cells()) {
                    boolean meant = m.group().startsWith("#") || to.row() == from.row()
                            || !repeats(items.get(field));
                    if (to.item() == field && meant && reached.add(to)) {
                        next.push(to);
                    }
                }
            }
        }
        return reached;
    }

    private Outcome outcome(Cell cell) {
        Outcome before = known.get(cell);
        if (before != null) {
            return before;
        }
        String expression = expression(items.get(cell.item()));
        Outcome outcome;
        if (expression.isEmpty()) {
            outcome = Outcome.of(told.getOrDefault(cell, 0L));
        } else if (hangsOn(cell).contains(cell)) {
            outcome = new Outcome(3, BigInteger.ZERO);
        } else {
            outcome = worth(expression, cell.row());
        }
        known.put(cell, outcome);
        return outcome;
    }

    private boolean fails(Cell cell) {
        return items.get(cell.item()).startsWith("!") && outcome(cell).isZero();
    }

    private Outcome worth(String e, int row) {
        if (Character.isDigit(e.charAt(0))) {
            return new Outcome(0, new BigDecimal(e).movePointRight(2).toBigIntegerExact());
        }
        if (e.startsWith("#")) {
            BigInteger sum = BigInteger.ZERO;
            for (int r = 0; r < rows; r++) {
                Outcome each = outcome(new Cell(fieldNamed(e.substring(1)), r));
                if (each.fault() != 0) {
                    return each;
                }
                sum = sum.add(each.value());
            }
            return Outcome.within(sum);
        }
        if (!e.startsWith("(")) {
            int field = fieldNamed(e);
            return outcome(new Cell(field, repeats(items.get(field)) ? row : 0));
        }
        int sign = outerSign(e, 1);
        Outcome x = worth(e.substring(1, sign), row);
        if (x.fault() != 0) {
            return x;
        }
        if (e.charAt(sign) == '?') {
            int colon = outerSign(e, sign + 1);
            return worth(x.isZero() ? e.substring(colon + 1, e.length() - 1) : e.substring(sign + 1, colon), row);
        }
        Outcome y = worth(e.substring(sign + 1, e.length() - 1), row);
        return y.fault() != 0 ? y : operation(e.charAt(sign), x.value(), y.value());
    }

    private static int outerSign(String e, int from) {
        int depth = 0;
        for (int i = from;; i++) {
            char c = e.charAt(i);
            depth += c == '(' ? 1 : c == ')' ? -1 : 0;
            if (depth == 0 && "+-*/<=?:".indexOf(c) >= 0) {
                return i;
            }
        }
    }

    private static Outcome operation(char sign, BigInteger x, BigInteger y) {
        return switch (sign) {
            case '+' -> Outcome.within(x.add(y));
            case '-' -> Outcome.within(x.subtract(y));
            case '*' -> Outcome.within(new BigDecimal(x.multiply(y), 2).setScale(0, RoundingMode.HALF_EVEN)
                    .toBigIntegerExact());
            case '/' -> y.signum() == 0 ? new Outcome(2, BigInteger.ZERO)
                    : Outcome.within(new BigDecimal(x).movePointRight(2)
                            .divide(new BigDecimal(y), 0, RoundingMode.HALF_EVEN).toBigIntegerExact());
            case '<' -> Outcome.of(x.compareTo(y) < 0 ? 100 : 0);
            default -> Outcome.of(x.equals(y) ? 100 : 0);
        };
    }

    // Pages.

    private List<List<Integer>> allPages() {
        knownPages = knownPages == null ? laidOut() : knownPages;
        return knownPages;
    }

    /** The pages that have something on them, each the list of what stands at its lines. */
    private List<List<Integer>> laidOut() {
        List<List<Integer>> pages = new ArrayList<>();
        pages.add(new ArrayList<>());
        int i = 0;
        while (i < items.size() && closed) {
            if (!repeats(items.get(i))) {
                put(pages, lines(new Cell(i, 0)), List.of());
                i++;
                continue;
            }
            int end = i;
            while (end < items.size() && repeats(items.get(end))) {
                end++;
            }
            boolean headed = i > 0 && items.get(i - 1).startsWith("\"");
            for (int row = 0; row < rows; row++) {
                List<List<Integer>> parts = new ArrayList<>();
                List<Integer> block = new ArrayList<>();
                for (int k = i; k < end; k++) {
                    parts.add(lines(new Cell(k, row)));
                    block.addAll(lines(new Cell(k, row)));
                }
                if (block.size() > height) {
                    parts.forEach(part -> put(pages, part, List.of()));
                } else {
                    put(pages, block, headed && row > 0 ? lines(new Cell(i - 1, 0)) : List.of());
                }
            }
            i = end;
        }
        pages.removeIf(List::isEmpty);
        return pages;
    }

    private void put(List<List<Integer>> pages, List<Integer> lines, List<Integer> header) {
        List<Integer> last = pages.get(pages.size() - 1);
        if (last.size() + lines.size() > height && !last.isEmpty()) {
            last = new ArrayList<>();
            pages.add(last);
            if (header.size() + lines.size() <= height) {
                last.addAll(header);
            }
        }
        last.addAll(lines);
    }

    private List<Integer> lines(Cell cell) {
        String item = items.get(cell.item());
        int high = 1;
        if (item.startsWith("\"")) {
            high = (int) Math.ceil((item.length() - 1) / 12.0);
        } else if (item.startsWith("!")) {
            high = fails(cell) ? 1 : 0;
        }
        return Collections.nCopies(high, cell.code());
    }

    // The position of the error: a machine with a stack that looks at one character after another.

    private enum State { BEGIN, NAMED, NAMED_FULL, STARRED, CHECK, CAPTION, WANTED, HASH, NAME, WHOLE, POINT, DECIMAL, DONE }

    /** -1 if there is none. */
    private static int errorIn(String text) {
        State state = State.BEGIN;
        // For each open bracket: 1 before its sign, 2 before the colon, 0 before its end.
        Deque<Integer> open = new ArrayDeque<>();
        int run = 0;
        for (int i = 0; i < text.length(); i++) {
            char c = text.charAt(i);
            State before = state;
            state = step(state, run, c, open);
            if (state == null) {
                return i;
            }
            run = state == before ? run + 1 : 1;
        }
        boolean whole = switch (state) {
            case NAMED, NAMED_FULL, STARRED -> true;
            case CAPTION -> run > 1;
            case NAME, WHOLE, DECIMAL, DONE -> open.isEmpty();
            default -> false;
        };
        return whole ? -1 : text.length();
    }

    private static State step(State state, int run, char c, Deque<Integer> open) {
        boolean letter = c >= 'a' && c <= 'z';
        boolean digit = c >= '0' && c <= '9';
        switch (state) {
            case BEGIN:
                return letter ? State.NAMED : c == '!' ? State.CHECK : c == '"' ? State.CAPTION : null;
            case NAMED:
                return letter ? State.NAMED_FULL : c == '*' ? State.STARRED : c == '=' ? State.WANTED : null;
            case NAMED_FULL:
                return c == '*' ? State.STARRED : c == '=' ? State.WANTED : null;
            case STARRED:
                return c == '=' ? State.WANTED : null;
            case CHECK:
                return c == '*' ? State.WANTED : wanted(c, open);
            case CAPTION:
                return run <= 36 ? State.CAPTION : null;
            case WANTED:
                return wanted(c, open);
            case HASH:
                return letter ? State.NAME : null;
            case NAME:
                return letter && run == 1 ? State.NAME : letter ? null : behind(c, open);
            case WHOLE:
                return digit && run < 6 ? State.WHOLE : c == '.' ? State.POINT : behind(c, open);
            case POINT:
                return digit ? State.DECIMAL : null;
            case DECIMAL:
                return digit && run == 1 ? State.DECIMAL : behind(c, open);
            default:
                return behind(c, open);
        }
    }

    private static State wanted(char c, Deque<Integer> open) {
        if (c == '(' && open.size() < 6) {
            open.push(1);
            return State.WANTED;
        }
        return c >= 'a' && c <= 'z' ? State.NAME : c >= '0' && c <= '9' ? State.WHOLE : c == '#' ? State.HASH : null;
    }

    private static State behind(char c, Deque<Integer> open) {
        if (open.isEmpty()) {
            return null;
        }
        int phase = open.pop();
        if (phase == 0) {
            return c == ')' ? State.DONE : null;
        }
        if (phase == 2) {
            open.push(0);
            return c == ':' ? State.WANTED : null;
        }
        open.push(c == '?' ? 2 : 0);
        return "+-*/<=?".indexOf(c) >= 0 ? State.WANTED : null;
    }
}
