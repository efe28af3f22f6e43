/** What the tests share: telling texts to a form, and comparing answers with those that are due. */
final class Due {
    /** Stand for the exceptions where an answer is compared; no call answers these numbers. */
    static final long ARGUMENT = -1001;
    static final long STATE = -1002;

    /** Stand for faults where a field's value would be; no field can have these values. */
    static final long FAULT_1 = Long.MIN_VALUE + 1;
    static final long FAULT_2 = Long.MIN_VALUE + 2;
    static final long FAULT_3 = Long.MIN_VALUE + 3;

    private static String sentence = "";
    private static int sentences = 0;
    private static int wrong = 0;
    private static int compared = 0;

    private Due() {
    }

    /** What the answers compared from here on are about: a place in the document, and its words there. */
    static void about(String place, String words) {
        sentence = place + ", '" + words + "': ";
        sentences++;
    }

    /** One side, named last, of what the document's words ask. */
    static void about(String place, String words, String side) {
        about(place, words);
        sentence = sentence + side + ": ";
    }

    static void same(String call, long got, long want) {
        compared++;
        if (got != want) {
            wrong++;
            System.out.println(sentence + call + " answered " + got + ", due is " + want);
        }
    }

    static void same(String call, boolean got, boolean want) {
        same(call, got ? 1 : 0, want ? 1 : 0);
    }

    static void end() {
        String about = sentences == 0 ? "" : " about " + sentences + " sentences";
        System.out.println(compared + " answers compared" + about + ", " + wrong + " wrong");
        if (wrong != 0) {
            System.exit(1);
        }
    }

    static long word(String upToEight) {
        long w = 0;
        for (int i = 0; i < upToEight.length(); i++) {
            w = w << 8 | upToEight.charAt(i);
        }
        return w;
    }

    static void write(FormSheet sheet, String text) {
        for (int i = 0; i < text.length(); i += 8) {
            String part = text.substring(i, Math.min(i + 8, text.length()));
            same("write " + part, sheet.write(word(part)), true);
        }
    }

    static long add(FormSheet sheet) {
        try {
            return sheet.add();
        } catch (IllegalArgumentException e) {
            return ARGUMENT;
        } catch (IllegalStateException e) {
            return STATE;
        }
    }

    static long add(FormSheet sheet, String text) {
        write(sheet, text);
        return add(sheet);
    }

    static long close(FormSheet sheet) {
        try {
            return sheet.close();
        } catch (IllegalArgumentException e) {
            return ARGUMENT;
        } catch (IllegalStateException e) {
            return STATE;
        }
    }

    static FormSheet open(int height, String... items) {
        FormSheet sheet = new FormSheet(height);
        for (int i = 0; i < items.length; i++) {
            same("add " + items[i], add(sheet, items[i]), i);
        }
        return sheet;
    }

    static FormSheet closed(int height, String... items) {
        FormSheet sheet = open(height, items);
        same("closing", close(sheet) >= 0, true);
        return sheet;
    }

    /** A field's value and fault in one. */
    static void field(FormSheet sheet, int item, int row, long valueOrFault) {
        boolean faulty = valueOrFault <= FAULT_3;
        long fault = faulty ? valueOrFault - Long.MIN_VALUE : 0;
        same("fault(" + item + ", " + row + ")", sheet.fault(item, row), fault);
        same("get(" + item + ", " + row + ")", sheet.get(item, row), faulty ? 0 : valueOrFault);
    }

    /** The value of one expression with the fields a, b, .. told before it. */
    static void worth(String expression, long valueOrFault, long... told) {
        FormSheet sheet = new FormSheet(10);
        for (int i = 0; i < told.length; i++) {
            same("add", add(sheet, String.valueOf((char) ('a' + i))), i);
        }
        same("add z=" + expression, add(sheet, "z=" + expression), told.length);
        same("close", close(sheet), told.length + 1);
        for (int i = 0; i < told.length; i++) {
            same("set", sheet.set(i, 0, told[i]) >= 0, true);
        }
        field(sheet, told.length, 0, valueOrFault);
    }

    /** What the calls answer that want a closed form, when it is open. */
    static void unanswered(FormSheet sheet) {
        same("rows", sheet.rows(2), FormSheet.NONE);
        same("set", sheet.set(0, 0, 1), FormSheet.NONE);
        same("get", sheet.get(0, 0), 0);
        same("fault", sheet.fault(0, 0), FormSheet.NONE);
        same("message(-1)", sheet.message(-1), 0);
        same("message(0)", sheet.message(0), FormSheet.NONE);
        same("place", sheet.place(0, 0), FormSheet.NONE);
        same("pages", sheet.pages(), 0);
        same("line", sheet.line(0, 0), FormSheet.NONE);
        same("count(4)", sheet.count(4), 0);
    }

    /** The lines of all pages, each page's from line 0 on; behind them there is nothing. */
    static void stands(FormSheet sheet, int[]... pages) {
        same("pages", sheet.pages(), pages.length);
        for (int page = 0; page <= pages.length; page++) {
            for (int line = 0; line < 32; line++) {
                int due = page < pages.length && line < pages[page].length ? pages[page][line] : FormSheet.NONE;
                same("line(" + page + ", " + line + ")", sheet.line(page, line), due);
            }
        }
    }

    static int[] page(int... lines) {
        return lines;
    }
}
