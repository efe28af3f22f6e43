import java.util.Arrays;

/** A test for each sentence that names a boundary case: Terms, pages; promises 12 place, 13 pages and 14 line. */
public final class EdgesOfPagesTest {
    private static final String PAGES = "Terms, pages";
    private static final String PLACE = "Promise 12, place";
    private static final String COUNT = "Promise 13, pages";
    private static final String LINE = "Promise 14, line";
    private static final int NONE = FormSheet.NONE;

    /** Items, rows, pages and lines that no form has, among them those that would wrap around to others. */
    private static final int[] NOT_THERE = {-1, -2, -4, -8, 64, 65, 1 << 28, 1 << 29, 1 << 30, -(1 << 30),
        Integer.MAX_VALUE, Integer.MIN_VALUE};

    public static void main(String[] args) {
        heightLines();
        linesOfFieldsAndChecks();
        linesOfCaptions();
        sections();
        blocksOfRows();
        fromLineZero();
        noLineNoPlace();
        justSoManyLinesLeft();
        moreLinesThanLeft();
        nothingOnThisPage();
        headerOnTheNextPage();
        noHeaderWithoutNextPage();
        noHeaderForRowZero();
        headerDirectlyBefore();
        noCaptionNoHeader();
        headerAndBlockOfHeight();
        headerAndBlockOfMore();
        captionsPlaceStays();
        blockOfHeight();
        blockOfMoreThanHeight();
        highBlockGoesOnItemByItem();
        placeOfLines();
        placeOfNoLine();
        placeNothingThere();
        placeOfACaption();
        placeWhenOpen();
        pagesWithSomething();
        pagesWithNothing();
        mostPages();
        pagesWhenOpen();
        lineOfAnItem();
        lineOfACaption();
        lineNothingThere();
        lineWhenOpen();
        Due.end();
    }

    private static String caption(int lines) {
        return "\"" + "x".repeat(12 * lines);
    }

    private static FormSheet closed(int height, int rows, String... items) {
        FormSheet x = Due.closed(height, items);
        Due.same("rows(" + rows + ")", x.rows(rows) >= 0, true);
        return x;
    }

    // Terms.

    private static void heightLines() {
        Due.about(PAGES, "PAGES have HEIGHT lines");
        for (int height = 4; height <= 20; height++) {
            FormSheet x = closed(height, 4, "a*", "b", "c*", "d", "e*", "f", "g*", "h", "i*", "j");
            // 25 fields, one behind another.
            Due.same("pages of " + height, x.pages(), (25 + height - 1) / height);
            Due.same("the last line", x.line(0, height - 1) >= 0, true);
            Due.same("behind it", x.line(0, height), NONE);
            Due.same("the next page", x.line(1, 0) >= 0, true);
            Due.same("the last field", x.place(9, 0), 32 * (24 / height) + 24 % height);
        }
    }

    private static void linesOfFieldsAndChecks() {
        Due.about(PAGES, "A field has 1 line, a check 1 if it fails, else none");
        FormSheet x = Due.closed(9, "!a", "a", "!(a<5)", "b=(1/0)", "!(5<a)", "!(1/a)");
        Due.stands(x, Due.page(0, 8, 24, 32, 40));
        Due.same("set", x.set(1, 0, 500), 0);
        Due.stands(x, Due.page(8, 16, 24, 32));
        Due.same("set", x.set(1, 0, 501), 0);
        Due.stands(x, Due.page(8, 16, 24));
        Due.same("set", x.set(1, 0, 0), 0);
        Due.stands(x, Due.page(0, 8, 24, 32, 40));
    }

    private static void linesOfCaptions() {
        Due.about(PAGES, "a caption one for each 12 characters or part of these");
        for (int wide = 1; wide <= 36; wide++) {
            FormSheet x = Due.closed(4, "\"" + "x".repeat(wide), "a");
            Due.same("behind " + wide, x.place(1, 0), wide <= 12 ? 1 : wide <= 24 ? 2 : 3);
        }
        Due.stands(Due.closed(4, "\"x", "a"), Due.page(0, 8));
        Due.stands(Due.closed(4, "\"123456789012", "a"), Due.page(0, 8));
        Due.stands(Due.closed(4, "\"1234567890123", "a"), Due.page(0, 0, 8));
        Due.stands(Due.closed(4, caption(3), "a"), Due.page(0, 0, 0, 8));
    }

    private static void sections() {
        Due.about(PAGES, "A SECTION is a row of items with *, as long as it can be");
        Due.stands(closed(20, 2, "a*", "b*", "c", "d*", "!*0", "e*"), Due.page(0, 8, 1, 9, 16, 24, 32, 40, 25, 33, 41));
        Due.stands(closed(20, 2, "a*"), Due.page(0, 1));
        // A check or a caption between two of them parts them, though it may have no line.
        Due.stands(closed(20, 2, "a*", "!1", "b*"), Due.page(0, 1, 16, 17));
        Due.stands(closed(20, 2, "a*", "\"x", "b*"), Due.page(0, 1, 8, 16, 17));
        // All 16 items are one section.
        FormSheet x = closed(20, 4, "a*", "b*", "c*", "d*", "e*", "f*", "g*", "h*", "i*", "j*", "k*", "l*", "m*", "n*",
            "o*", "p*");
        for (int row = 0; row < 4; row++) {
            Due.same("first", x.place(0, row), 32 * row);
            Due.same("last", x.place(15, row), 32 * row + 15);
        }
    }

    private static void blocksOfRows() {
        Due.about(PAGES, "its BLOCKS are its items of row 0, of row 1, ..");
        String[] items = {"z", "a*", "b*", "y"};
        Due.stands(closed(20, 0, items), Due.page(0, 24));
        Due.stands(closed(20, 1, items), Due.page(0, 8, 16, 24));
        Due.stands(closed(20, 3, items), Due.page(0, 8, 16, 9, 17, 10, 18, 24));
        Due.stands(closed(20, 4, items), Due.page(0, 8, 16, 9, 17, 10, 18, 11, 19, 24));
    }

    private static void fromLineZero() {
        Due.about(PAGES, "Laid out are the items without * and the blocks in order, from line 0 of page 0 on");
        Due.stands(Due.closed(4, "a"), Due.page(0));
        Due.stands(closed(4, 1, "a*"), Due.page(0));
        Due.stands(Due.closed(4, "!1", "a"), Due.page(8));
        Due.stands(Due.closed(4, "!0", "\"x", "a"), Due.page(0, 8, 16));
        Due.stands(Due.closed(4));
    }

    private static void noLineNoPlace() {
        Due.about(PAGES, "What has no line has no place");
        FormSheet x = Due.closed(4, "a", "b", "c", "d", "!1");
        Due.stands(x, Due.page(0, 8, 16, 24));
        Due.same("a check that holds", x.place(4, 0), NONE);
        // Blocks without lines neither turn a page nor want a header.
        FormSheet y = closed(4, 4, "a", "b", "c", "\"x", "!*1", "d");
        Due.stands(y, Due.page(0, 8, 16, 24), Due.page(40));
        Due.same("of row 1", y.place(4, 1), NONE);
    }

    private static void justSoManyLinesLeft() {
        Due.about(PAGES, "One that has more lines than are left on the page goes to the next page",
            "one that has just as many does not");
        Due.stands(Due.closed(4, "a", "b", "c", "d"), Due.page(0, 8, 16, 24));
        Due.stands(Due.closed(4, "a", caption(3)), Due.page(0, 8, 8, 8));
        Due.stands(Due.closed(5, caption(2), caption(3)), Due.page(0, 0, 8, 8, 8));
        Due.stands(closed(4, 2, "a*", "b*"), Due.page(0, 8, 1, 9));
        Due.stands(closed(4, 1, "z", "a*", "b*", "c*"), Due.page(0, 8, 16, 24));
    }

    private static void moreLinesThanLeft() {
        Due.about(PAGES, "One that has more lines than are left on the page goes to the next page");
        Due.stands(Due.closed(4, "a", "b", "c", "d", "e"), Due.page(0, 8, 16, 24), Due.page(32));
        Due.stands(Due.closed(4, "a", "b", caption(3)), Due.page(0, 8), Due.page(16, 16, 16));
        Due.stands(Due.closed(4, caption(3), caption(2), "a"), Due.page(0, 0, 0), Due.page(8, 8, 16));
        Due.stands(closed(4, 2, "z", "a*", "b*"), Due.page(0, 8, 16), Due.page(9, 17));
        Due.stands(closed(4, 1, "y", "z", "a*", "b*", "c*"), Due.page(0, 8), Due.page(16, 24, 32));
        Due.stands(Due.closed(4, "a", "b", "c", "d", "!0"), Due.page(0, 8, 16, 24), Due.page(32));
        // What comes then never goes back to the page before.
        Due.stands(Due.closed(4, "a", "b", caption(3), "c", "d"), Due.page(0, 8), Due.page(16, 16, 16, 24),
            Due.page(32));
    }

    private static void nothingOnThisPage() {
        Due.about(PAGES, "goes to the next page, if there is something on this one");
        // Higher than a page, and first on it.
        Due.stands(closed(4, 1, "a*", "b*", "c*", "d*", "e*"), Due.page(0, 8, 16, 24), Due.page(32));
        Due.stands(Due.closed(4, "!1", "!1", caption(3)), Due.page(16, 16, 16));
        Due.stands(closed(4, 2, "!*1", "!1", "a*", "b*", "c*", "d*"), Due.page(16, 24, 32, 40),
            Due.page(17, 25, 33, 41));
    }

    private static void headerOnTheNextPage() {
        Due.about(PAGES, "There a block, but that of row 0, comes behind the lines of its HEADER");
        Due.stands(closed(4, 4, "\"x", "a*", "b*"), Due.page(0, 8, 16), Due.page(0, 9, 17), Due.page(0, 10, 18),
            Due.page(0, 11, 19));
        Due.stands(closed(5, 4, caption(2), "a*"), Due.page(0, 0, 8, 9, 10), Due.page(0, 0, 11));
        Due.stands(closed(4, 4, caption(3), "a*"), Due.page(0, 0, 0, 8), Due.page(0, 0, 0, 9), Due.page(0, 0, 0, 10),
            Due.page(0, 0, 0, 11));
    }

    private static void noHeaderWithoutNextPage() {
        Due.about(PAGES, "There a block, but that of row 0, comes behind the lines of its HEADER",
            "only there");
        // These stand on the page of the block before them.
        Due.stands(closed(8, 3, "\"x", "a*", "b*"), Due.page(0, 8, 16, 9, 17, 10, 18));
        // Row 1 just fits, so that only row 2 goes.
        Due.stands(closed(5, 3, "\"x", "a*", "b*"), Due.page(0, 8, 16, 9, 17), Due.page(0, 10, 18));
    }

    private static void noHeaderForRowZero() {
        Due.about(PAGES, "a block, but that of row 0");
        Due.stands(closed(4, 1, "z", "y", "\"x", "a*", "b*"), Due.page(0, 8, 16), Due.page(24, 32));
        Due.stands(closed(4, 4, "z", caption(3), "a*"), Due.page(0, 8, 8, 8), Due.page(16, 17, 18, 19));
        Due.stands(closed(4, 3, "z", "y", "\"x", "a*", "b*"), Due.page(0, 8, 16), Due.page(24, 32, 25, 33),
            Due.page(16, 26, 34));
        // Row 1 has one though row 0 has no line.
        FormSheet x = closed(4, 2, "z", "y", "w", "\"x", "!*a", "v", "a*");
        Due.same("set", x.set(6, 0, 100), 0);
        Due.stands(x, Due.page(0, 8, 16, 24), Due.page(24, 33, 40, 48), Due.page(49));
    }

    private static void headerDirectlyBefore() {
        Due.about(PAGES, "its HEADER, the caption directly before its section");
        Due.stands(closed(4, 4, "\"x", "\"y", "a*"), Due.page(0, 8, 16, 17), Due.page(8, 18, 19));
        Due.stands(closed(4, 4, "\"x", "z", "a*"), Due.page(0, 8, 16, 17), Due.page(18, 19));
        Due.stands(closed(4, 4, "\"x", "!1", "a*"), Due.page(0, 16, 17, 18), Due.page(19));
        Due.stands(closed(4, 3, "a*", "b*", "\"x"), Due.page(0, 8, 1, 9), Due.page(2, 10, 16));
        // Each section has its own.
        Due.stands(closed(4, 4, "\"x", "a*", "\"y", "b*"), Due.page(0, 8, 9, 10), Due.page(0, 11, 16, 24),
            Due.page(16, 25, 26, 27));
    }

    private static void noCaptionNoHeader() {
        Due.about(PAGES, "if there is one");
        Due.stands(closed(4, 3, "a*", "b*"), Due.page(0, 8, 1, 9), Due.page(2, 10));
        Due.stands(closed(4, 3, "z", "a*", "b*"), Due.page(0, 8, 16), Due.page(9, 17, 10, 18));
        Due.stands(closed(4, 3, "!0", "a*", "b*"), Due.page(0, 8, 16), Due.page(9, 17, 10, 18));
    }

    private static void headerAndBlockOfHeight() {
        Due.about(PAGES, "and both together have at most HEIGHT lines", "just HEIGHT");
        Due.stands(closed(4, 2, "\"x", "a*", "b*", "c*"), Due.page(0, 8, 16, 24), Due.page(0, 9, 17, 25));
        Due.stands(closed(4, 2, caption(2), "a*", "b*"), Due.page(0, 0, 8, 16), Due.page(0, 0, 9, 17));
        Due.stands(closed(4, 2, caption(3), "a*"), Due.page(0, 0, 0, 8), Due.page(0, 0, 0, 9));
        Due.stands(closed(5, 2, caption(3), "a*", "b*"), Due.page(0, 0, 0, 8, 16), Due.page(0, 0, 0, 9, 17));
    }

    private static void headerAndBlockOfMore() {
        Due.about(PAGES, "and both together have at most HEIGHT lines", "one more");
        Due.stands(closed(4, 2, "\"x", "a*", "b*", "c*", "d*"), Due.page(0), Due.page(8, 16, 24, 32),
            Due.page(9, 17, 25, 33));
        Due.stands(closed(4, 2, caption(2), "a*", "b*", "c*"), Due.page(0, 0), Due.page(8, 16, 24),
            Due.page(9, 17, 25));
        Due.stands(closed(4, 3, caption(3), "a*", "b*"), Due.page(0, 0, 0), Due.page(8, 16, 9, 17), Due.page(10, 18));
        // The row whose check fails has one line more than the others.
        FormSheet x = closed(4, 3, caption(2), "a*", "b*", "!*(a=0)");
        Due.same("set", x.set(1, 1, 100), 0);
        Due.stands(x, Due.page(0, 0, 8, 16), Due.page(9, 17, 25), Due.page(0, 0, 10, 18));
    }

    private static void captionsPlaceStays() {
        Due.about(PAGES, "(these lines repeat the caption; its place stays the first one)");
        FormSheet x = closed(4, 4, "z", caption(2), "a*");
        Due.stands(x, Due.page(0, 8, 8, 16), Due.page(8, 8, 17, 18), Due.page(8, 8, 19));
        Due.same("place(1, 0)", x.place(1, 0), 1);
        Due.same("what is behind the header", x.place(2, 1), 34);
        Due.same("what is behind the next one", x.place(2, 3), 66);
    }

    private static void blockOfHeight() {
        Due.about(PAGES, "A block of more than HEIGHT lines is laid out item by item", "one of just HEIGHT is not");
        Due.stands(closed(4, 2, "z", "a*", "b*", "c*", "d*"), Due.page(0), Due.page(8, 16, 24, 32),
            Due.page(9, 17, 25, 33));
        FormSheet x = closed(4, 1, "z", "a*", "b*", "c*", "d*", "!*a");
        Due.same("set", x.set(1, 0, 1), 0);
        Due.stands(x, Due.page(0), Due.page(8, 16, 24, 32));
    }

    private static void blockOfMoreThanHeight() {
        Due.about(PAGES, "A block of more than HEIGHT lines is laid out item by item instead");
        Due.stands(closed(4, 1, "z", "a*", "b*", "c*", "d*", "e*"), Due.page(0, 8, 16, 24), Due.page(32, 40));
        FormSheet x = closed(4, 1, "z", "a*", "b*", "c*", "d*", "!*a");
        Due.stands(x, Due.page(0, 8, 16, 24), Due.page(32, 40));
        // The highest block there is, on pages that are just too low and just high enough.
        String[] sixteen = {"a*", "b*", "c*", "d*", "e*", "f*", "g*", "h*", "i*", "j*", "k*", "l*", "m*", "n*", "o*",
            "p*"};
        FormSheet low = closed(15, 2, sixteen);
        Due.same("the last one of row 0", low.place(15, 0), 32);
        Due.same("the first one of row 1", low.place(0, 1), 33);
        Due.same("the last one of row 1", low.place(15, 1), 65);
        FormSheet high = closed(16, 2, sixteen);
        Due.same("the last one of row 0", high.place(15, 0), 15);
        Due.same("the first one of row 1", high.place(0, 1), 32);
    }

    private static void highBlockGoesOnItemByItem() {
        Due.about(PAGES, "(also as to the next page, without header)");
        Due.stands(closed(4, 2, "\"x", "a*", "b*", "c*", "d*", "e*"), Due.page(0, 8, 16, 24), Due.page(32, 40, 9, 17),
            Due.page(25, 33, 41));
        // Only row 0 is so high; row 1 goes whole, but finds no room for its header.
        FormSheet x = closed(4, 2, "\"x", "a*", "b*", "c*", "d*", "!*a");
        Due.same("set", x.set(1, 1, 1), 0);
        Due.stands(x, Due.page(0, 8, 16, 24), Due.page(32, 40), Due.page(9, 17, 25, 33));
        // And here it finds it.
        FormSheet y = closed(5, 2, "\"x", "a*", "b*", "c*", "d*", "!*a", "!*a");
        Due.same("set", y.set(1, 1, 1), 0);
        Due.stands(y, Due.page(0, 8, 16, 24, 32), Due.page(40, 48), Due.page(0, 9, 17, 25, 33));
        // A page that is full before an item of it is turned for that one.
        Due.stands(closed(4, 1, "z", "y", "w", "v", "a*", "b*", "c*", "d*", "e*"), Due.page(0, 8, 16, 24),
            Due.page(32, 40, 48, 56),
            Due.page(64));
    }

    // Promise 12.

    private static void placeOfLines() {
        Due.about(PLACE, "Where an item's lines begin: 32 * page + line");
        FormSheet x = closed(20, 4, "z", caption(3), "a*", "b*", "!*0", "c*");
        Due.same("place(0, 0)", x.place(0, 0), 0);
        Due.same("place(1, 0)", x.place(1, 0), 1);
        Due.same("place(2, 0)", x.place(2, 0), 4);
        Due.same("place(5, 3)", x.place(5, 3), 19);
        FormSheet y = closed(20, 4, "z", caption(3), "a*", "b*", "!*0", "c*", "d");
        Due.same("place(6, 0)", y.place(6, 0), 32);
        FormSheet w = Due.closed(4, "a", "b", "c", "d", "e", "f", "g", "h", "i", "j", "k", "l", "m", "n", "o", "p");
        for (int item = 0; item < 16; item++) {
            Due.same("place(" + item + ", 0)", w.place(item, 0), 32 * (item / 4) + item % 4);
        }
    }

    private static void placeOfNoLine() {
        Due.about(PLACE, "NONE if it has none");
        FormSheet x = closed(4, 2, "a*", "!*a", "!#a");
        Due.same("a check that fails", x.place(1, 0), 1);
        Due.same("a check that fails", x.place(2, 0), 32);
        Due.same("set", x.set(0, 0, 1), 0);
        Due.same("a check that holds", x.place(1, 0), NONE);
        Due.same("the other row's", x.place(1, 1), 2);
        Due.same("a check that holds", x.place(2, 0), NONE);
    }

    private static void placeNothingThere() {
        Due.about(PLACE, "NONE if [..] there is no such item or row");
        FormSheet x = closed(4, 2, "a", "b*", "!0", "!*0");
        Due.same("one behind the last", x.place(4, 0), NONE);
        Due.same("item 16", x.place(16, 0), NONE);
        for (int item = 0; item < 4; item++) {
            int rows = item % 2 == 0 ? 1 : 2;
            Due.same("the last row of " + item, x.place(item, rows - 1) >= 0, true);
            for (int row = rows; row <= 8; row++) {
                Due.same("row " + row + " of " + item, x.place(item, row), NONE);
            }
            for (int no : NOT_THERE) {
                Due.same("item " + no, x.place(no, item), NONE);
                Due.same("row " + no + " of " + item, x.place(item, no), NONE);
            }
        }
        Due.same("rows(0)", x.rows(0), 1);
        Due.same("row 0 of none", x.place(1, 0), NONE);
        Due.same("row 0 of none", x.place(3, 0), NONE);
    }

    private static void placeOfACaption() {
        Due.about(PLACE, "(a caption's row is 0)");
        FormSheet x = closed(4, 4, "\"x", "a*");
        Due.same("row 0", x.place(0, 0), 0);
        for (int row : new int[] {-1, 1, 2, 3, 4}) {
            Due.same("row " + row, x.place(0, row), NONE);
        }
        Due.same("rows(0)", x.rows(0), 0);
        Due.same("row 0 without rows", x.place(0, 0), 0);
    }

    private static void placeWhenOpen() {
        Due.about(PLACE, "NONE if [..] the form is open");
        FormSheet x = Due.open(4, "a", "\"x");
        Due.same("a field", x.place(0, 0), NONE);
        Due.same("a caption", x.place(1, 0), NONE);
        Due.same("close", Due.close(x), 1);
        Due.same("a field", x.place(0, 0), 0);
        x.clear();
        Due.same("cleared", x.place(0, 0), NONE);
        Due.same("add", Due.add(x, "a"), 0);
        Due.same("open again", x.place(0, 0), NONE);
    }

    // Promise 13.

    private static void pagesWithSomething() {
        Due.about(COUNT, "How many pages have something on them");
        String[] items = {"a", "b", "c", "d", "e", "f", "g", "h", "i"};
        int[] due = {0, 1, 1, 1, 1, 2, 2, 2, 2, 3};
        for (int size = 0; size <= 9; size++) {
            FormSheet x = Due.closed(4, Arrays.copyOf(items, size));
            Due.same("pages of " + size, x.pages(), due[size]);
        }
        FormSheet y = closed(4, 4, "a*", "!*(a=0)");
        Due.same("pages", y.pages(), 1);
        Due.same("set", y.set(0, 3, 1), 0);
        Due.same("pages", y.pages(), 2);
        Due.same("set", y.set(0, 3, 0), 0);
        Due.same("pages", y.pages(), 1);
    }

    private static void pagesWithNothing() {
        Due.about(COUNT, "How many pages have something on them", "none");
        Due.same("the empty form", Due.closed(4).pages(), 0);
        Due.same("checks that hold", Due.closed(4, "!1", "!*1").pages(), 0);
        Due.same("no rows", closed(4, 0, "a*", "!*0").pages(), 0);
        FormSheet x = Due.closed(4, "!0");
        Due.same("a check that fails", x.pages(), 1);
    }

    private static void mostPages() {
        Due.about(COUNT, "How many pages have something on them", "very many");
        String three = caption(3);
        FormSheet x = closed(4, 4, three, "a*", three, "b*", three, "c*", three, "d*", three, "e*", three, "f*", three,
            "g*", three, "h*");
        Due.same("a page for each block", x.pages(), 32);
        Due.same("the last header", x.line(31, 0), 8 * 14);
        Due.same("the last line", x.line(31, 3), 8 * 15 + 3);
        Due.same("behind it", x.line(32, 0), NONE);
        Due.same("the last place", x.place(15, 3), 32 * 31 + 3);
        Due.same("the last caption", x.place(14, 0), 32 * 28);
    }

    private static void pagesWhenOpen() {
        Due.about(COUNT, "0 if the form is open");
        FormSheet x = Due.open(4, "a", "\"x");
        Due.same("open", x.pages(), 0);
        Due.same("close", Due.close(x), 1);
        Due.same("closed", x.pages(), 1);
        x.clear();
        Due.same("cleared", x.pages(), 0);
        Due.same("add", Due.add(x, "a"), 0);
        Due.same("open again", x.pages(), 0);
    }

    // Promise 14.

    private static void lineOfAnItem() {
        Due.about(LINE, "8 * item + row of the item whose line it is");
        FormSheet x = closed(20, 4, "!1", "!1", "!1", "!1", "!1", "!1", "!1", "!1", "!1", "!1", "!1", "!1", "!1", "!1",
            "a*", "!*0");
        for (int row = 0; row < 4; row++) {
            Due.same("the field", x.line(0, 2 * row), 8 * 14 + row);
            Due.same("the check", x.line(0, 2 * row + 1), 8 * 15 + row);
        }
        Due.same("item 0", Due.closed(4, "a").line(0, 0), 0);
    }

    private static void lineOfACaption() {
        Due.about(LINE, "(of a caption, repeated or not, row 0)");
        FormSheet x = closed(4, 3, "z", caption(2), "a*");
        Due.stands(x, Due.page(0, 8, 8, 16), Due.page(8, 8, 17, 18));
    }

    private static void lineNothingThere() {
        Due.about(LINE, "NONE if there is nothing");
        FormSheet x = Due.closed(4, "a", "b", "c", caption(2), "d");
        Due.stands(x, Due.page(0, 8, 16), Due.page(24, 24, 32));
        Due.same("a line that is left", x.line(0, 3), NONE);
        // Where the next page's lines would be, were they all in one row.
        Due.same("line HEIGHT", x.line(0, 4), NONE);
        Due.same("line HEIGHT + 1", x.line(0, 5), NONE);
        Due.same("line -1 of page 1", x.line(1, -1), NONE);
        Due.same("line -4 of page 1", x.line(1, -4), NONE);
        Due.same("line 4 of page -1", x.line(-1, 4), NONE);
        Due.same("page 2", x.line(2, 0), NONE);
        for (int no : NOT_THERE) {
            Due.same("page " + no, x.line(no, 0), NONE);
            Due.same("line " + no, x.line(0, no), NONE);
            Due.same("page and line " + no, x.line(no, no), NONE);
        }
        Due.same("of the empty form", Due.closed(4).line(0, 0), NONE);
    }

    private static void lineWhenOpen() {
        Due.about(LINE, "NONE if there is nothing (or the form is open)");
        FormSheet x = Due.open(4, "a");
        Due.same("open", x.line(0, 0), NONE);
        Due.same("close", Due.close(x), 1);
        Due.same("closed", x.line(0, 0), 0);
        x.clear();
        Due.same("cleared", x.line(0, 0), NONE);
        Due.same("add", Due.add(x, "a"), 0);
        Due.same("open again", x.line(0, 0), NONE);
    }
}
