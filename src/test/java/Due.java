/** What the tests share: telling texts to a form, and comparing answers with those that are due. */
final class Due {
    /** Stand for the exceptions where an answer is compared; no call answers these numbers. */
    static final long ARGUMENT = -1001;
    static final long STATE = -1002;

    private static int wrong = 0;
    private static int compared = 0;

    private Due() {
    }

    static void same(String call, long got, long want) {
        compared++;
        if (got != want) {
            wrong++;
            System.out.println(call + " answered " + got + ", due is " + want);
        }
    }

    static void same(String call, boolean got, boolean want) {
        same(call, got ? 1 : 0, want ? 1 : 0);
    }

    static void end() {
        System.out.println(compared + " answers compared, " + wrong + " wrong");
        if (wrong != 0) {
            System.exit(1);
        }
    }

    static long word(String upToEight) {
        long w = 0;
        for (int i = 0; i < upToEight.length(); i++) {
            w = w << 8 | upToEight.charAt(i);
        }
        return w;
    }

    static void write(FormSheet sheet, String text) {
        for (int i = 0; i < text.length(); i += 8) {
            String part = text.substring(i, Math.min(i + 8, text.length()));
            same("write " + part, sheet.write(word(part)), true);
        }
    }

    static long add(FormSheet sheet) {
        try {
            return sheet.add();
        } catch (IllegalArgumentException e) {
            return ARGUMENT;
        } catch (IllegalStateException e) {
            return STATE;
        }
    }

    static long add(FormSheet sheet, String text) {
        write(sheet, text);
        return add(sheet);
    }

    static long close(FormSheet sheet) {
        try {
            return sheet.close();
        } catch (IllegalArgumentException e) {
            return ARGUMENT;
        } catch (IllegalStateException e) {
            return STATE;
        }
    }

    static FormSheet open(int height, String... items) {
        FormSheet sheet = new FormSheet(height);
        for (int i = 0; i < items.length; i++) {
            same("add " + items[i], add(sheet, items[i]), i);
        }
        return sheet;
    }

    static FormSheet closed(int height, String... items) {
        FormSheet sheet = open(height, items);
        same("closing", close(sheet) >= 0, true);
        return sheet;
    }

    /** A field's value and fault in one: the fault as a negative number. */
    static void field(FormSheet sheet, int item, int row, long valueOrMinusFault) {
        long fault = valueOrMinusFault < 0 && valueOrMinusFault >= -3 ? -valueOrMinusFault : 0;
        same("fault(" + item + ", " + row + ")", sheet.fault(item, row), fault);
        same("get(" + item + ", " + row + ")", sheet.get(item, row), fault != 0 ? 0 : valueOrMinusFault);
    }

    /** The value of one expression with the fields before it told. */
    static void worth(String expression, long valueOrMinusFault, long... told) {
        FormSheet sheet = new FormSheet(10);
        for (int i = 0; i < told.length; i++) {
            same("add", add(sheet, String.valueOf((char) ('a' + i))), i);
        }
        same("add z=" + expression, add(sheet, "z=" + expression), told.length);
        same("close", close(sheet), told.length + 1);
        for (int i = 0; i < told.length; i++) {
            same("set", sheet.set(i, 0, told[i]) >= 0, true);
        }
        field(sheet, told.length, 0, valueOrMinusFault);
    }
}
