import java.util.ArrayList;
import java.util.List;
import java.util.Random;

/**
 * All promises: runs of calls, made up from a fixed seed, are answered by the class as by the model. Some are 512 calls
 * in any order; the others, which ask everything again and again, are longer, as this program does not wear out.
 */
public final class ModelTest {
    private static final long LIMIT = 1_000_000_000_000_000L;
    private static final int RUNS = 2000;
    private static final int CALLS = 512;
    private static final String[] NAMES = {"a", "b", "c", "d", "e", "f", "g", "h", "aa", "ab", "ba", "z", "zz"};
    private static final int[] ODD = {-2, -1, 4, 5, 15, 16, 17, 63, 64, 1 << 28, 1 << 30, Integer.MAX_VALUE,
        Integer.MIN_VALUE};

    private final Random random;
    private final FormSheet sheet;
    private final Model model;
    private final String run;
    /** What is left of the item that is being written, when calls are in any order. */
    private String unwritten = "";

    private ModelTest(int seed) {
        random = new Random(seed);
        int height = random.nextInt(3) == 0 ? random.nextInt(26) - 2 : 4 + random.nextInt(4);
        sheet = new FormSheet(height);
        model = new Model(height);
        run = "run " + seed + ": ";
    }

    public static void main(String[] args) {
        for (int seed = 0; seed < RUNS; seed++) {
            new ModelTest(seed).play();
            new ModelTest(-1 - seed).playInAnyOrder();
        }
        Due.end();
    }

    private void play() {
        for (int form = 0; form < 2; form++) {
            if (random.nextInt(8) == 0) {
                spoiltTexts();
            }
            addItems();
            tryToClose();
            compareAll();
            int changes = random.nextInt(8);
            for (int i = 0; i < changes; i++) {
                change();
                compareAll();
            }
            if (random.nextInt(4) == 0) {
                spoiltTexts();
            }
            sheet.clear();
            model.clear();
            compareAll();
        }
    }

    private void playInAnyOrder() {
        for (int call = 1; call <= CALLS; call++) {
            boolean closed = model.count(3) == 1;
            int kind = random.nextInt(100);
            if (kind < 3) {
                closeOrClear(closed);
            } else if (kind < (closed ? 8 : 70)) {
                writeOrAdd();
            } else if (kind < (closed ? 12 : 72)) {
                changeRows();
            } else if (kind < (closed ? 45 : 75)) {
                setOne();
            } else {
                ask();
            }
        }
    }

    private void closeOrClear(boolean closed) {
        if (random.nextInt(closed ? 2 : 8) == 0) {
            sheet.clear();
            model.clear();
        } else {
            same("close", Due.close(sheet), model.close());
        }
    }

    private void writeOrAdd() {
        if (unwritten.isEmpty() || random.nextInt(40) == 0) {
            addBoth("of what was written");
            // Few names, so that those in expressions are often those of fields.
            String head = List.of("a", "ab", "n*", "nm*", "!", "!*", "\"").get(random.nextInt(7));
            unwritten = itemOf(head, List.of("a", "ab"), List.of("n", "nm"));
        } else {
            int length = Math.min(8, unwritten.length());
            writeBoth(Due.word(unwritten.substring(0, length)));
            unwritten = unwritten.substring(length);
        }
    }

    private void ask() {
        int i = random.nextInt(10) == 0 ? odd() : random.nextInt(8);
        int k = random.nextInt(10) == 0 ? odd() : random.nextInt(3);
        String at = "(" + i + ", " + k + ")";
        switch (random.nextInt(8)) {
            case 0 -> same("position", sheet.position(), model.position());
            case 1 -> same("get" + at, sheet.get(i, k), model.get(i, k));
            case 2 -> same("fault" + at, sheet.fault(i, k), model.fault(i, k));
            case 3 -> same("message(" + (i - 1) + ")", sheet.message(i - 1), model.message(i - 1));
            case 4 -> same("place" + at, sheet.place(i, k), model.place(i, k));
            case 5 -> same("pages", sheet.pages(), model.pages());
            case 6 -> same("line(" + k + ", " + i + ")", sheet.line(k, i), model.line(k, i));
            default -> same("count(" + i + ")", sheet.count(i), model.count(i));
        }
    }

    private void same(String call, long got, long want) {
        Due.same(run + call, got, want);
    }

    // Items.

    private void addItems() {
        List<String> plain = new ArrayList<>();
        List<String> repeating = new ArrayList<>();
        List<String> heads = new ArrayList<>();
        int size = random.nextInt(17);
        boolean startsRepeating = random.nextBoolean();
        for (int i = 0; i < size; i++) {
            // Neighbours often repeat together, so that there are sections.
            startsRepeating = random.nextInt(3) == 0 ? !startsRepeating : startsRepeating;
            int kind = random.nextInt(8);
            if (kind == 0) {
                heads.add("\"");
            } else if (kind <= 2) {
                heads.add(startsRepeating ? "!*" : "!");
            } else {
                String name = NAMES[random.nextInt(NAMES.length)];
                if (!plain.contains(name) && !repeating.contains(name)) {
                    (startsRepeating ? repeating : plain).add(name);
                    heads.add(name + (startsRepeating ? "*" : ""));
                }
            }
        }
        for (String head : heads) {
            tell(itemOf(head, plain, repeating));
        }
    }

    private String itemOf(String head, List<String> plain, List<String> repeating) {
        if (head.equals("\"")) {
            return head + "some words of a caption, or even more".substring(0, 1 + random.nextInt(36));
        }
        if (!head.startsWith("!") && random.nextInt(2) == 0) {
            return head;
        }
        String item = head + (head.startsWith("!") ? "" : "=");
        String expression = expression(random.nextInt(4), head.endsWith("*"), plain, repeating);
        return item.length() + expression.length() <= 60 ? item + expression : item + "1";
    }

    private String expression(int depth, boolean inRepeating, List<String> plain, List<String> repeating) {
        int kind = depth == 0 ? random.nextInt(5) : 5 + random.nextInt(7);
        if (kind == 0 || kind <= 4 && plain.isEmpty() && repeating.isEmpty()) {
            return number();
        }
        if (random.nextInt(300) == 0) {
            return (random.nextBoolean() ? "#" : "") + NAMES[random.nextInt(NAMES.length)];
        }
        if (kind <= 4) {
            boolean ofRows = plain.isEmpty() || !repeating.isEmpty() && random.nextBoolean();
            String name = (ofRows ? repeating : plain).get(random.nextInt((ofRows ? repeating : plain).size()));
            return ofRows && !(inRepeating && random.nextInt(3) != 0) ? "#" + name : name;
        }
        String x = expression(random.nextInt(depth), inRepeating, plain, repeating);
        String y = expression(depth - 1, inRepeating, plain, repeating);
        if (kind == 11) {
            return "(" + x + "?" + y + ":" + expression(random.nextInt(depth), inRepeating, plain, repeating) + ")";
        }
        return "(" + x + "+-*/<=".charAt(kind - 5) + y + ")";
    }

    private String number() {
        return switch (random.nextInt(6)) {
            case 0 -> "0";
            case 1 -> "1";
            case 2 -> "0." + random.nextInt(10);
            case 3 -> random.nextInt(1000) + "." + random.nextInt(100);
            case 4 -> "" + random.nextInt(1_000_000);
            default -> "" + random.nextInt(10);
        };
    }

    /** Texts that are nearly items, and some that are. */
    private void spoiltTexts() {
        List<String> names = List.of(NAMES);
        for (int i = 0; i < 12; i++) {
            String head = List.of("a", "ab*", "!", "!*", "zz", "\"").get(random.nextInt(6));
            StringBuilder text = new StringBuilder(itemOf(head, names, names));
            if (random.nextInt(6) == 0) {
                text = new StringBuilder(head + (head.startsWith("!") ? "" : "=") + "(1+".repeat(random.nextInt(9)));
            }
            int faults = random.nextInt(3);
            for (int k = 0; k < faults; k++) {
                int at = random.nextInt(text.length() + 1);
                char c = "abz0129.#()+-*/<=?:!\" ~".charAt(random.nextInt(23));
                switch (random.nextInt(4)) {
                    case 0 -> text.insert(at, c);
                    case 1 -> text.setLength(at);
                    case 2 -> text.replace(at, Math.min(at + 1, text.length()), "");
                    default -> text.replace(at, Math.min(at + 1, text.length()), "" + c);
                }
            }
            tell(text.toString());
        }
    }

    private void tell(String text) {
        for (int i = 0; i < text.length();) {
            int end = Math.min(text.length(), i + 1 + random.nextInt(8));
            long w = Due.word(text.substring(i, end));
            w = random.nextInt(4) == 0 && end - i <= 4 ? w << 32 : w;
            writeBoth(w);
            i = end;
            if (random.nextInt(40) == 0) {
                writeBoth(random.nextBoolean() ? random.nextLong() : (long) (128 + random.nextInt(128)) << 24);
            }
        }
        addBoth(text);
        same("position " + text, sheet.position(), model.position());
    }

    private void addBoth(String text) {
        same("add " + text, Due.add(sheet), model.add());
    }

    private void writeBoth(long w) {
        same("write(" + w + ")", sheet.write(w) ? 1 : 0, model.write(w) ? 1 : 0);
    }

    // Values.

    private void tryToClose() {
        same("close", Due.close(sheet), model.close());
        if (random.nextInt(10) == 0) {
            same("close again", Due.close(sheet), model.close());
        }
    }

    private void change() {
        if (random.nextInt(4) == 0) {
            changeRows();
            return;
        }
        // Until a told field is met, or often enough.
        boolean told = false;
        for (int tries = 0; tries < 12 && !told; tries++) {
            told = setOne();
        }
    }

    private void changeRows() {
        int n = random.nextInt(8) == 0 ? odd() : random.nextInt(5);
        same("rows(" + n + ")", sheet.rows(n), model.rows(n));
    }

    /** Whether there is such a told field. */
    private boolean setOne() {
        int item = random.nextInt(40) == 0 ? odd() : random.nextInt(16);
        int row = random.nextInt(40) == 0 ? odd() : random.nextInt(4);
        long value = value();
        int anew = model.set(item, row, value);
        same("set(" + item + ", " + row + ", " + value + ")", sheet.set(item, row, value), anew);
        return anew >= 0;
    }

    private int odd() {
        return ODD[random.nextInt(ODD.length)];
    }

    private long value() {
        return switch (random.nextInt(8)) {
            case 0 -> 0;
            case 1 -> (random.nextBoolean() ? LIMIT : -LIMIT) + random.nextInt(5) - 2;
            case 2 -> random.nextLong();
            case 3 -> random.nextLong() >> 14 + random.nextInt(48);
            case 4 -> 100L * random.nextInt(5);
            default -> random.nextInt(2001) - 1000;
        };
    }

    private void compareAll() {
        for (int what = -1; what <= 5; what++) {
            same("count(" + what + ")", sheet.count(what), model.count(what));
        }
        same("position", sheet.position(), model.position());
        int items = model.count(0);
        for (int item = -1; item <= items; item++) {
            for (int row = -1; row <= 4; row++) {
                String at = "(" + item + ", " + row + ")";
                same("get" + at, sheet.get(item, row), model.get(item, row));
                same("fault" + at, sheet.fault(item, row), model.fault(item, row));
                same("place" + at, sheet.place(item, row), model.place(item, row));
            }
        }
        int messages = model.message(-1);
        for (int k = -2; k <= messages; k++) {
            same("message(" + k + ")", sheet.message(k), model.message(k));
        }
        int pages = model.pages();
        same("pages", sheet.pages(), pages);
        for (int page = -1; page <= pages; page++) {
            for (int line = -1; line <= model.height; line++) {
                same("line(" + page + ", " + line + ")", sheet.line(page, line), model.line(page, line));
            }
        }
        int item = odd();
        int row = odd();
        same("get of odd ones", sheet.get(item, row), model.get(item, row));
        same("fault of odd ones", sheet.fault(item, row), model.fault(item, row));
        same("place of odd ones", sheet.place(item, row), model.place(item, row));
        same("line of odd ones", sheet.line(item, row), model.line(item, row));
        same("message of odd ones", sheet.message(item), model.message(item));
    }
}
