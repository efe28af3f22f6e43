import java.util.Arrays;

/**
 * A test for each sentence that names a boundary case: how many calls an object is used for; Terms, forms and rows;
 * promises 1 a new object, 5 close, 6 clear, 7 rows and 15 count.
 */
public final class EdgesOfFormTest {
    private static final String USE = "What it is";
    private static final String FORMS = "Terms, forms and rows";
    private static final String NEW = "Promise 1, a new object";
    private static final String CLOSE = "Promise 5, close";
    private static final String CLEAR = "Promise 6, clear";
    private static final String ROWS = "Promise 7, rows";
    private static final String COUNT = "Promise 15, count";
    private static final int NONE = FormSheet.NONE;

    public static void main(String[] args) {
        manySets();
        manyItems();
        manyRefusals();
        none();
        sixteenItems();
        rowsThatRepeat();
        oneRow();
        openAtFirst();
        namesOfFields();
        starredOnlyBehindHash();
        hashWantsStarred();
        starredInStarred();
        sameRow();
        heightTooSmall();
        heightTooLarge();
        newIsOpenAndEmpty();
        closeCountsValues();
        closeRefused();
        refusedCloseChangesNothing();
        closeTwice();
        clearAnything();
        clearSetsRows();
        clearForgets();
        clearLeavesTheRest();
        rowsOneToFour();
        noRows();
        toldOfRowsThatGo();
        toldOfRowsThatStay();
        rowsTooFewOrMany();
        rowsOfAnOpenForm();
        countItems();
        countRows();
        countHeight();
        countClosed();
        countFaults();
        countAnother();
        Due.end();
    }

    // What it is.

    private static void manySets() {
        Due.about(USE, "An object is used for at most 512 calls after it has been made", "of values and rows");
        FormSheet x = new FormSheet(4);
        Due.same("call 1", x.write(Due.word("a*")), true);
        Due.same("call 2", Due.add(x), 0);
        Due.same("call 3", x.write(Due.word("b=#a")), true);
        Due.same("call 4", Due.add(x), 1);
        Due.same("call 5", Due.close(x), 2);
        for (int call = 6; call <= 510; call++) {
            if (call % 2 == 0) {
                Due.same("call " + call, x.rows(1 + call % 4), 2 + call % 4);
            } else {
                Due.same("call " + call, x.set(0, 0, call), 1);
            }
        }
        Due.same("call 511", x.set(0, 0, 511), 1);
        Due.same("call 512", x.get(1, 0), 511);
    }

    private static void manyItems() {
        Due.about(USE, "at most 512 calls after it has been made", "for long items");
        String item = "!" + "(1?#ab:".repeat(6) + "123.45" + ")".repeat(6);
        FormSheet x = new FormSheet(4);
        int calls = 0;
        int items = 0;
        while (calls + 10 <= 512) {
            Due.write(x, item);
            calls += (item.length() + 7) / 8;
            Due.same("add, call " + ++calls, Due.add(x), items++);
            if (items == 16) {
                x.clear();
                calls++;
                items = 0;
            }
        }
        while (++calls < 512) {
            Due.same("count(0), call " + calls, x.count(0), items);
        }
        Due.same("close, call " + calls, Due.close(x), items == 0 ? 0 : Due.ARGUMENT);
    }

    private static void manyRefusals() {
        Due.about(USE, "at most 512 calls after it has been made", "all refused");
        FormSheet x = new FormSheet(4);
        for (int call = 1; call <= 511; call++) {
            Due.same("add, call " + call, Due.add(x), Due.ARGUMENT);
        }
        Due.same("position, call 512", x.position(), 0);
    }

    private static void none() {
        Due.about("Terms, the constants", "`NONE = -1`: Nothing there");
        Due.same("NONE", FormSheet.NONE, -1);
    }

    // Terms.

    private static void sixteenItems() {
        Due.about(FORMS, "A FORM has at most 16 items, numbered from 0 on");
        FormSheet x = new FormSheet(20);
        for (int i = 0; i < 16; i++) {
            Due.same("add", Due.add(x, Character.toString('a' + i)), i);
        }
        Due.same("a 17th", Due.add(x, "z"), Due.STATE);
        Due.same("close", Due.close(x), 16);
        Due.same("item 0", x.set(0, 0, 100), 0);
        Due.same("item 15", x.set(15, 0, 1500), 0);
        Due.same("item 16", x.set(16, 0, 1), NONE);
        Due.same("item -1", x.set(-1, 0, 1), NONE);
        Due.field(x, 0, 0, 100);
        Due.field(x, 15, 0, 1500);
    }

    private static void rowsThatRepeat() {
        Due.about(FORMS, "there is one for each ROW, 0 .. ROWS - 1 (ROWS 0 .. 4, at first 1)");
        FormSheet x = Due.closed(20, "a*", "b*=a", "!*a");
        Due.same("ROWS at first", x.count(1), 1);
        for (int rows : new int[] {1, 0, 4, 3, 2}) {
            if (rows != 1) {
                Due.same("rows(" + rows + ")", x.rows(rows), 2 * rows);
            }
            for (int row = -1; row <= 8; row++) {
                boolean there = row >= 0 && row < rows;
                String at = rows + " rows, row " + row;
                Due.same(at + ", told", x.set(0, row, 700), there ? 1 : NONE);
                Due.same(at + ", worked out", x.get(1, row), there ? 700 : 0);
                Due.same(at + ", fault", x.fault(1, row), there ? 0 : NONE);
                Due.same(at + ", check", x.fault(2, row), there ? 0 : NONE);
                Due.same(at + ", place", x.place(1, row), there ? 2 * row + 1 : NONE);
            }
        }
    }

    private static void oneRow() {
        Due.about(FORMS, "of the others there is one, row 0");
        FormSheet x = Due.closed(20, "a", "b=a", "!a", "\"x");
        for (int rows = 0; rows <= 4; rows++) {
            Due.same("rows(" + rows + ")", x.rows(rows), 2);
            for (int row = -1; row <= 4; row++) {
                Due.same("told, row " + row, x.set(0, row, 100), row == 0 ? 1 : NONE);
                Due.same("worked out, row " + row, x.fault(1, row), row == 0 ? 0 : NONE);
                Due.same("check, row " + row, x.fault(2, row), row == 0 ? 0 : NONE);
                Due.same("caption, row " + row, x.place(3, row), row == 0 ? 2 : NONE);
            }
        }
    }

    private static void openAtFirst() {
        Due.about(FORMS, "A form is OPEN at first");
        FormSheet x = new FormSheet(4);
        Due.same("closed", x.count(3), 0);
        Due.unanswered(x);
        Due.same("add", Due.add(x, "a"), 0);
        Due.same("closed", x.count(3), 0);
        Due.unanswered(x);
    }

    private static void closes(int values, String... items) {
        FormSheet x = Due.open(4, items);
        Due.same("close " + String.join(" ", items), Due.close(x), values);
        Due.same("count(3)", x.count(3), 1);
    }

    private static void closesNot(String... items) {
        FormSheet x = Due.open(4, items);
        Due.same("close " + String.join(" ", items), Due.close(x), Due.ARGUMENT);
        Due.same("count(3)", x.count(3), 0);
    }

    private static void namesOfFields() {
        Due.about(FORMS, "it can be CLOSED if each name in an expression is that of a field");
        closes(1, "a=a");
        closes(2, "b=a", "a");
        closes(2, "az", "b=az");
        closesNot("b=a");
        closesNot("!a");
        closesNot("!*#a");
        closesNot("a", "b=aa");
        closesNot("aa", "b=a");
        closesNot("ab", "b=ba");
        // A check or a caption with these letters is no field.
        closesNot("!1", "\"a", "b=a");
        // In whatever part it stands, and even if that one is never looked at.
        closesNot("a", "b=(x+a)");
        closesNot("a", "b=(a+x)");
        closesNot("a", "b=(x?a:a)");
        closesNot("a", "b=(0?x:a)");
        closesNot("a", "b=(1?a:x)");
        closesNot("a", "b=(a+(a+(a+(a+(a+(a+x))))))");
        closesNot("a", "b=a", "c=b", "!d");
    }

    private static void starredOnlyBehindHash() {
        Due.about(FORMS, "one with * only behind #");
        closes(2, "a*", "b=#a");
        closes(1, "a*", "!#a");
        closesNot("a*", "b=a");
        closesNot("a*=1", "b=a");
        closesNot("a*", "!a");
        closesNot("a*", "b=(#a+a)");
        closesNot("a*", "b=(0?a:1)");
    }

    private static void hashWantsStarred() {
        Due.about(FORMS, "behind # (which wants one with *)");
        closes(2, "a*", "b*=#a");
        closes(1, "a*=#a");
        closesNot("a", "b=#a");
        closesNot("a=1", "b=#a");
        closesNot("a", "b*=#a");
        closesNot("a", "!#a");
        closesNot("a", "!*#a");
        closesNot("a", "b=(0?#a:1)");
    }

    private static void starredInStarred() {
        Due.about(FORMS, "or, without #, in an expression of an item with *");
        closes(2, "a*", "b*=a");
        closes(1, "a*", "!*a");
        closes(2, "a", "b*=a");
        closes(1, "a", "!*a");
        closes(3, "a", "b*", "c*=(a+(b+#b))");
    }

    private static void sameRow() {
        Due.about(FORMS, "(it means the one of the same row then)");
        FormSheet x = Due.closed(20, "a*", "b*=(a+a)", "!*a");
        Due.same("rows", x.rows(4), 8);
        for (int row = 0; row < 4; row++) {
            Due.same("set in row " + row, x.set(0, row, 100 * row), 1);
        }
        for (int row = 0; row < 4; row++) {
            Due.field(x, 1, row, 200 * row);
            Due.same("check in row " + row, x.fault(2, row), row == 0 ? 1 : 0);
        }
    }

    // Promise 1.

    private static void heightTooSmall() {
        Due.about(NEW, "HEIGHT is height, but 4 if that is less");
        for (int height : new int[] {3, 2, 1, 0, -1, -20, Integer.MIN_VALUE}) {
            Due.same("height " + height, new FormSheet(height).count(2), 4);
        }
        for (int height = 4; height <= 20; height++) {
            Due.same("height " + height, new FormSheet(height).count(2), height);
        }
        FormSheet x = Due.closed(3, "a", "b", "c", "d", "e");
        Due.same("the last line of 4", x.line(0, 3), 24);
        Due.same("the next page", x.line(1, 0), 32);
    }

    private static void heightTooLarge() {
        Due.about(NEW, "and 20 if that is more");
        for (int height : new int[] {21, 22, 32, 1 << 30, Integer.MAX_VALUE}) {
            Due.same("height " + height, new FormSheet(height).count(2), 20);
        }
        FormSheet x = Due.closed(21, "a", "b*", "c*", "d*", "e*", "f*");
        Due.same("rows", x.rows(4), 21);
        Due.same("the last line of 20", x.line(0, 15), 8 * 5 + 2);
        Due.same("the next page", x.place(1, 3), 32);
        FormSheet y = Due.closed(21, "b*", "c*", "d*", "e*", "f*");
        Due.same("rows", y.rows(4), 20);
        Due.same("pages", y.pages(), 1);
        Due.same("the last line of 20", y.line(0, 19), 8 * 4 + 3);
    }

    private static void newIsOpenAndEmpty() {
        Due.about(NEW, "An open form without items");
        FormSheet x = new FormSheet(4);
        Due.same("items", x.count(0), 0);
        Due.same("closed", x.count(3), 0);
        Due.same("the first item", Due.add(x, "a"), 0);
    }

    // Promise 5.

    private static void closeCountsValues() {
        Due.about(CLOSE, "how many values there are (of fields, by rows)");
        closes(0);
        closes(0, "!1", "!*1", "\"x");
        closes(1, "a");
        closes(2, "a", "b=1", "!1", "\"x");
        closes(2, "a*", "b*=1");
        closes(16, "a", "b", "c", "d", "e", "f", "g", "h", "i*", "j*", "k*", "l*", "m=1", "n=2", "o*=3", "p*=4");
    }

    private static void closeRefused() {
        Due.about(CLOSE, "IllegalArgumentException if a name is not as it must be");
        closesNot("b=a");
        closesNot("a*", "b=a");
        closesNot("a", "b=#a");
        // In the last of 16 items too.
        String[] items = new String[16];
        Arrays.fill(items, "!1");
        items[15] = "!a";
        closesNot(items);
    }

    private static void refusedCloseChangesNothing() {
        Due.about(CLOSE, "IllegalArgumentException if a name is not as it must be", "then it is open still");
        FormSheet x = Due.open(4, "b=a", "!#c");
        Due.same("close", Due.close(x), Due.ARGUMENT);
        Due.unanswered(x);
        Due.same("count(0)", x.count(0), 2);
        Due.same("add what is missing", Due.add(x, "a"), 2);
        Due.same("close", Due.close(x), Due.ARGUMENT);
        Due.same("add what is missing", Due.add(x, "c*"), 3);
        Due.same("close", Due.close(x), 3);
        Due.same("set", x.set(2, 0, 500), 1);
        Due.field(x, 0, 0, 500);
    }

    private static void closeTwice() {
        Due.about(CLOSE, "IllegalStateException if it is closed");
        FormSheet x = Due.closed(4, "a", "n*");
        Due.same("rows", x.rows(3), 4);
        Due.same("set", x.set(0, 0, 500), 0);
        Due.same("close", Due.close(x), Due.STATE);
        Due.same("close", Due.close(x), Due.STATE);
        Due.same("what was told stays", x.get(0, 0), 500);
        Due.same("ROWS stays", x.count(1), 3);
        Due.same("closed", x.count(3), 1);
        FormSheet empty = Due.closed(4);
        Due.same("close of the empty one", Due.close(empty), Due.STATE);
        empty.clear();
        Due.same("close behind clear", Due.close(empty), 0);
    }

    // Promise 6.

    private static void clearAnything() {
        Due.about(CLEAR, "An empty, open form");
        FormSheet open = Due.open(4, "a", "b=a");
        FormSheet closed = Due.closed(4, "a", "b=a", "!a", "\"x");
        FormSheet full = Due.closed(4, "a", "!1", "!1", "!1", "!1", "!1", "!1", "!1", "!1", "!1", "!1", "!1", "!1",
            "!1",
            "!1", "!1");
        for (FormSheet x : new FormSheet[] {new FormSheet(4), open, closed, full, closed}) {
            x.clear();
            Due.same("items", x.count(0), 0);
            Due.same("closed", x.count(3), 0);
            Due.unanswered(x);
            Due.same("a name that was there", Due.add(x, "a"), 0);
        }
    }

    private static void clearSetsRows() {
        Due.about(CLEAR, "ROWS 1");
        FormSheet x = Due.closed(4, "a*");
        for (int rows : new int[] {0, 4}) {
            Due.same("rows(" + rows + ")", x.rows(rows), rows);
            x.clear();
            Due.same("count(1)", x.count(1), 1);
            Due.same("add", Due.add(x, "a*"), 0);
            Due.same("close", Due.close(x), 1);
        }
    }

    private static void clearForgets() {
        Due.about(CLEAR, "An empty, open form", "nothing is left of the one before");
        FormSheet x = Due.closed(4, "a*", "b=(1/0)", "!0", "\"x");
        Due.same("rows", x.rows(4), 5);
        for (int row = 0; row < 4; row++) {
            Due.same("set", x.set(0, row, 700), 0);
        }
        x.clear();
        Due.same("close", Due.close(x), 0);
        Due.same("faults", x.count(4), 0);
        Due.same("messages", x.message(-1), 0);
        Due.same("pages", x.pages(), 0);
        Due.same("line", x.line(0, 0), NONE);
        x.clear();
        Due.same("add", Due.add(x, "a*"), 0);
        Due.same("close", Due.close(x), 1);
        Due.same("rows", x.rows(4), 4);
        for (int row = 0; row < 4; row++) {
            Due.same("told in row " + row, x.get(0, row), 0);
        }
        x.clear();
        Due.same("a name that was there", Due.add(x, "c=b"), 0);
        Due.same("close", Due.close(x), Due.ARGUMENT);
        // Nor does anything hang as it did: neither a told field on itself, nor the third on the second.
        FormSheet y = Due.closed(4, "a=(a+b)", "b");
        y.clear();
        for (String item : new String[] {"a", "b", "c=a"}) {
            Due.same("add " + item, Due.add(y, item) >= 0, true);
        }
        Due.same("close", Due.close(y), 3);
        Due.same("faults", y.count(4), 0);
        Due.same("set b", y.set(1, 0, 1), 0);
        Due.same("set a", y.set(0, 0, 1), 1);
    }

    private static void clearLeavesTheRest() {
        Due.about(CLEAR, "An empty, open form; ROWS 1", "the text and HEIGHT are not of the form");
        FormSheet x = new FormSheet(7);
        Due.write(x, "a=1");
        x.clear();
        Due.write(x, "2");
        Due.same("add a=12", Due.add(x), 0);
        Due.same("close", Due.close(x), 1);
        Due.field(x, 0, 0, 1200);
        x.clear();
        Due.same("HEIGHT", x.count(2), 7);
    }

    // Promise 7.

    private static void rowsOneToFour() {
        Due.about(ROWS, "ROWS becomes n, [..] how many values there are");
        FormSheet x = Due.closed(4, "a", "b*", "c*=b", "!*b", "\"x", "d=#b");
        for (int n : new int[] {1, 2, 3, 4, 3, 1, 4, 4, 1}) {
            Due.same("rows(" + n + ")", x.rows(n), 2 + 2 * n);
            Due.same("count(1)", x.count(1), n);
        }
        FormSheet plain = Due.closed(4, "a");
        Due.same("rows(4) where nothing repeats", plain.rows(4), 1);
        Due.same("count(1)", plain.count(1), 4);
        FormSheet most = Due.closed(4, "a*", "b*", "c*", "d*", "e*", "f*", "g*", "h*", "i*", "j*", "k*", "l*", "m*",
            "n*",
            "o*", "p*");
        Due.same("rows(4) of 16", most.rows(4), 64);
        Due.same("the last one", most.set(15, 3, 900), 0);
        Due.same("the last one", most.get(15, 3), 900);
        Due.same("the first one", most.get(0, 0), 0);
    }

    private static void noRows() {
        Due.about(ROWS, "ROWS becomes n", "0");
        FormSheet x = Due.closed(4, "a*", "b=#a", "!*0", "c*=1");
        Due.same("set", x.set(0, 0, 500), 1);
        Due.same("rows(0)", x.rows(0), 1);
        Due.same("count(1)", x.count(1), 0);
        Due.same("no row 0 to set", x.set(0, 0, 1), NONE);
        Due.same("no row 0", x.fault(3, 0), NONE);
        Due.same("no message", x.message(-1), 0);
        Due.same("one line", x.line(0, 1), NONE);
        Due.field(x, 1, 0, 0);
        Due.same("rows(0) again", x.rows(0), 1);
        FormSheet none = Due.closed(4, "a*");
        Due.same("no values at all", none.rows(0), 0);
        Due.same("no pages", none.pages(), 0);
    }

    private static void toldOfRowsThatGo() {
        Due.about(ROWS, "what is told of rows that go is gone, that of new ones is 0");
        for (int left = 0; left < 4; left++) {
            FormSheet x = Due.closed(4, "z", "a*", "b=#a", "c*=a");
            Due.same("set", x.set(0, 0, 900), 0);
            Due.same("rows(4)", x.rows(4), 10);
            for (int row = 0; row < 4; row++) {
                Due.same("a new row", x.get(1, row), 0);
                Due.same("set", x.set(1, row, 100 + row), 2);
            }
            long sum = 0;
            Due.same("rows", x.rows(left), 2 + 2 * left);
            for (int row = 0; row < 4; row++) {
                sum += row < left ? 100 + row : 0;
                Due.same("row " + row, x.get(1, row), row < left ? 100 + row : 0);
            }
            Due.field(x, 2, 0, sum);
            Due.same("rows(4)", x.rows(4), 10);
            for (int row = 0; row < 4; row++) {
                Due.field(x, 1, row, row < left ? 100 + row : 0);
                Due.field(x, 3, row, row < left ? 100 + row : 0);
            }
            Due.field(x, 2, 0, sum);
            Due.field(x, 0, 0, 900);
        }
    }

    private static void toldOfRowsThatStay() {
        Due.about(ROWS, "what is told of rows that go is gone", "and nothing else is");
        FormSheet x = Due.closed(4, "a", "b*", "c*");
        Due.same("set", x.set(0, 0, 100), 0);
        Due.same("set", x.set(1, 0, 200), 0);
        for (int n : new int[] {1, 2, 4, 3, 1}) {
            Due.same("rows(" + n + ")", x.rows(n), 1 + 2 * n);
            Due.field(x, 0, 0, 100);
            Due.field(x, 1, 0, 200);
        }
        Due.same("rows(0)", x.rows(0), 1);
        Due.field(x, 0, 0, 100);
    }

    private static void rowsTooFewOrMany() {
        Due.about(ROWS, "NONE if n is not 0 .. 4");
        FormSheet x = Due.closed(4, "a*");
        Due.same("rows(4)", x.rows(4), 4);
        Due.same("set", x.set(0, 3, 700), 0);
        for (int n : new int[] {-1, 5, 6, 8, 64, -4, 1 << 30, Integer.MAX_VALUE, Integer.MIN_VALUE}) {
            Due.same("rows(" + n + ")", x.rows(n), NONE);
            Due.same("count(1)", x.count(1), 4);
            Due.same("what is told", x.get(0, 3), 700);
        }
    }

    private static void rowsOfAnOpenForm() {
        Due.about(ROWS, "NONE if [..] the form is open");
        FormSheet x = Due.open(4, "a*");
        for (int n = -1; n <= 5; n++) {
            Due.same("rows(" + n + ")", x.rows(n), NONE);
            Due.same("count(1)", x.count(1), 1);
        }
        Due.same("close", Due.close(x), 1);
        x.clear();
        Due.same("rows(3) behind clear", x.rows(3), NONE);
        Due.same("count(1)", x.count(1), 1);
    }

    // Promise 15.

    private static void countItems() {
        Due.about(COUNT, "What 0: how many items");
        FormSheet x = new FormSheet(4);
        for (int i = 0; i < 16; i++) {
            Due.same("count(0)", x.count(0), i);
            Due.same("add", Due.add(x, "!*1"), i);
        }
        Due.same("count(0)", x.count(0), 16);
        Due.same("close", Due.close(x), 0);
        Due.same("rows", x.rows(4), 0);
        Due.same("count(0), closed", x.count(0), 16);
    }

    private static void countRows() {
        Due.about(COUNT, "1: ROWS");
        FormSheet x = new FormSheet(4);
        Due.same("count(1), open", x.count(1), 1);
        Due.same("close", Due.close(x), 0);
        Due.same("count(1), closed", x.count(1), 1);
        Due.same("rows(4)", x.rows(4), 0);
        Due.same("count(1)", x.count(1), 4);
        Due.same("rows(0)", x.rows(0), 0);
        Due.same("count(1)", x.count(1), 0);
    }

    private static void countHeight() {
        Due.about(COUNT, "2: HEIGHT");
        FormSheet x = new FormSheet(17);
        Due.same("count(2), open", x.count(2), 17);
        Due.same("close", Due.close(x), 0);
        Due.same("count(2), closed", x.count(2), 17);
    }

    private static void countClosed() {
        Due.about(COUNT, "3: whether it is closed (1 or 0)");
        FormSheet x = new FormSheet(4);
        Due.same("count(3)", x.count(3), 0);
        Due.same("close", Due.close(x), 0);
        Due.same("count(3)", x.count(3), 1);
        x.clear();
        Due.same("count(3)", x.count(3), 0);
    }

    private static void countFaults() {
        Due.about(COUNT, "4: how many values have a fault (0 if open)");
        FormSheet x = Due.open(4, "a", "b*=(1/a)", "c=c", "d=#b", "!(1/0)", "!*(1/0)", "e=1");
        Due.same("open", x.count(4), 0);
        Due.same("close", Due.close(x), 5);
        Due.same("of fields alone", x.count(4), 3);
        Due.same("rows(4)", x.rows(4), 8);
        Due.same("by rows", x.count(4), 6);
        Due.same("rows(0)", x.rows(0), 4);
        Due.same("none by rows", x.count(4), 1);
        Due.same("rows(2)", x.rows(2), 6);
        Due.same("set", x.set(0, 0, 100), 3);
        Due.same("the circle alone", x.count(4), 1);
        x.clear();
        Due.same("cleared", x.count(4), 0);
        FormSheet all = Due.closed(4, "a*=a", "b*=b", "c*=c", "d*=d", "e*=e", "f*=f", "g*=g", "h*=h", "i*=i", "j*=j",
            "k*=k", "l*=l", "m*=m", "n*=n", "o*=o", "p*=p");
        Due.same("rows(4)", all.rows(4), 64);
        Due.same("all 64", all.count(4), 64);
    }

    private static void countAnother() {
        Due.about(COUNT, "NONE for another what");
        FormSheet open = new FormSheet(4);
        FormSheet closed = Due.closed(4, "a=(1/0)");
        for (int what : new int[] {-1, 5, 6, -5, 1 << 30, Integer.MAX_VALUE, Integer.MIN_VALUE}) {
            Due.same("open, count(" + what + ")", open.count(what), NONE);
            Due.same("closed, count(" + what + ")", closed.count(what), NONE);
        }
    }
}
