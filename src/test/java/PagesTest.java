/** Promises 12 place, 13 pages and 14 line: forms of many items. */
public final class PagesTest {
    private static final int NONE = FormSheet.NONE;

    public static void main(String[] args) {
        single();
        captions();
        checks();
        blocks();
        headers();
        headersTooHigh();
        highBlocks();
        emptyBlocks();
        manyPages();
        wrongAsked();
        Due.end();
    }

    private static void places(FormSheet x, int row, int... due) {
        for (int item = 0; item < due.length; item++) {
            Due.same("place(" + item + ", " + row + ")", x.place(item, row), due[item]);
        }
    }

    private static void single() {
        Due.stands(Due.closed(4));
        FormSheet x = Due.closed(4, "a", "b", "c=1", "d", "e", "f", "g", "h", "i");
        Due.stands(x, Due.page(0, 8, 16, 24), Due.page(32, 40, 48, 56), Due.page(64));
        places(x, 0, 0, 1, 2, 3, 32, 33, 34, 35, 64, NONE);
        Due.stands(Due.closed(20, "a", "b"), Due.page(0, 8));
        x.clear();
        Due.same("pages of an open form", x.pages(), 0);
        Due.same("its lines", x.line(0, 0), NONE);
        Due.same("its places", x.place(0, 0), NONE);
    }

    private static void captions() {
        for (int wide = 1; wide <= 36; wide++) {
            FormSheet x = Due.closed(4, "\"" + "x".repeat(wide), "a");
            Due.same("behind " + wide, x.place(1, 0), wide <= 12 ? 1 : wide <= 24 ? 2 : 3);
        }
        String three = "\"" + "x".repeat(25);
        FormSheet x = Due.closed(5, three, three, three, "a", "b", "c");
        Due.stands(x, Due.page(0, 0, 0), Due.page(8, 8, 8), Due.page(16, 16, 16, 24, 32), Due.page(40));
        places(x, 0, 0, 32, 64, 67, 68, 96);
    }

    private static void checks() {
        FormSheet x = Due.closed(4, "!a", "a", "!(a<5)", "b", "!(5<a)");
        Due.stands(x, Due.page(0, 8, 24, 32));
        places(x, 0, 0, 1, NONE, 2, 3);
        x.set(1, 0, 500);
        Due.stands(x, Due.page(8, 16, 24, 32));
        places(x, 0, NONE, 0, 1, 2, 3);
        x.set(1, 0, 600);
        Due.stands(x, Due.page(8, 16, 24));
        places(x, 0, NONE, 0, 1, 2, NONE);
        Due.stands(Due.closed(4, "!1", "!2"));
    }

    private static void blocks() {
        FormSheet x = Due.closed(4, "a", "n*", "m*", "b", "k*");
        Due.stands(x, Due.page(0, 8, 16, 24), Due.page(32));
        Due.same("rows", x.rows(3), 11);
        Due.stands(x, Due.page(0, 8, 16), Due.page(9, 17, 10, 18), Due.page(24, 32, 33, 34));
        places(x, 0, 0, 1, 2, 64, 65);
        places(x, 1, NONE, 32, 33, NONE, 66);
        places(x, 2, NONE, 34, 35, NONE, 67);
        places(x, 3, NONE, NONE, NONE, NONE, NONE);
        Due.same("rows", x.rows(0), 2);
        Due.stands(x, Due.page(0, 24));
        places(x, 0, 0, NONE, NONE, 1, NONE);
    }

    private static void headers() {
        FormSheet x = Due.closed(5, "\"thirteen char", "n*", "m*", "z");
        x.rows(4);
        Due.stands(x, Due.page(0, 0, 8, 16), Due.page(0, 0, 9, 17), Due.page(0, 0, 10, 18), Due.page(0, 0, 11, 19, 24));
        places(x, 0, 0, 2, 3, 100);
        places(x, 1, NONE, 34, 35);
        Due.same("a caption's row is 0", x.place(0, 1), NONE);

        // Row 0 has no header though it goes to the next page; nor has a block that does not go.
        FormSheet y = Due.closed(4, "a", "b", "\"c", "n*", "m*");
        y.rows(3);
        Due.stands(y, Due.page(0, 8, 16), Due.page(24, 32, 25, 33), Due.page(16, 26, 34));
        places(y, 0, 0, 1, 2, 32, 33);

        // Only the caption directly before the section is its header.
        FormSheet z = Due.closed(4, "\"c", "n*", "a", "m*", "k*");
        z.rows(4);
        Due.stands(z, Due.page(0, 8, 9, 10), Due.page(0, 11, 16), Due.page(24, 32, 25, 33), Due.page(26, 34, 27, 35));
        FormSheet two = Due.closed(4, "\"c", "\"d", "n*");
        two.rows(4);
        Due.stands(two, Due.page(0, 8, 16, 17), Due.page(8, 18, 19));
        places(two, 0, 0, 1, 2);

        // A check between caption and section has no line, but it is between them.
        FormSheet between = Due.closed(4, "\"c", "!1", "n*");
        between.rows(4);
        Due.stands(between, Due.page(0, 16, 17, 18), Due.page(19));

        // A page that ends just behind a block turns with the next one.
        FormSheet just = Due.closed(4, "a", "\"c", "n*", "m*");
        just.rows(2);
        Due.stands(just, Due.page(0, 8, 16, 24), Due.page(8, 17, 25));
    }

    private static void headersTooHigh() {
        FormSheet x = Due.closed(4, "\"" + "x".repeat(36), "n*", "m*");
        x.rows(3);
        Due.stands(x, Due.page(0, 0, 0), Due.page(8, 16, 9, 17), Due.page(10, 18));
        FormSheet y = Due.closed(4, "\"" + "x".repeat(24), "n*", "m*");
        y.rows(3);
        Due.stands(y, Due.page(0, 0, 8, 16), Due.page(0, 0, 9, 17), Due.page(0, 0, 10, 18));
        // As checks fail, a row's block may leave no room for the header.
        FormSheet z = Due.closed(4, "\"" + "x".repeat(24), "n*", "m*", "!*n");
        z.rows(3);
        z.set(1, 0, 100);
        z.set(1, 2, 100);
        Due.stands(z, Due.page(0, 0, 8, 16), Due.page(9, 17, 25), Due.page(0, 0, 10, 18));
    }

    private static void highBlocks() {
        FormSheet x = Due.closed(4, "\"c", "a*", "b*", "c*", "d*", "!*a", "z");
        x.rows(3);
        x.set(1, 1, 100);
        Due.stands(x, Due.page(0, 8, 16, 24), Due.page(32, 40), Due.page(9, 17, 25, 33), Due.page(10, 18, 26, 34),
            Due.page(42, 48));
        places(x, 0, 0, 1, 2, 3, 32, 33, 129);
        places(x, 2, NONE, 96, 97, 98, 99, 128);
        x.set(1, 0, 100);
        Due.stands(x, Due.page(0), Due.page(8, 16, 24, 32), Due.page(9, 17, 25, 33), Due.page(10, 18, 26, 34),
            Due.page(42, 48));
        // Just HEIGHT lines are no more than HEIGHT.
        FormSheet y = Due.closed(4, "y", "a*", "b*", "c*", "d*");
        y.rows(1);
        Due.stands(y, Due.page(0), Due.page(8, 16, 24, 32));
        FormSheet z = Due.closed(4, "y", "a*", "b*", "c*", "d*", "e*");
        Due.stands(z, Due.page(0, 8, 16, 24), Due.page(32, 40));
    }

    private static void emptyBlocks() {
        // What has no line turns no page and wants no header.
        FormSheet x = Due.closed(4, "a", "b", "\"c", "!*(n=0)", "d", "n*");
        x.rows(4);
        Due.stands(x, Due.page(0, 8, 16, 32), Due.page(40, 41, 42, 43));
        x.set(5, 3, 100);
        Due.stands(x, Due.page(0, 8, 16, 27), Due.page(32, 40, 41, 42), Due.page(43));
        x.set(5, 1, 100);
        Due.stands(x, Due.page(0, 8, 16, 25), Due.page(16, 27, 32, 40), Due.page(41, 42, 43));
        places(x, 3, NONE, NONE, NONE, 33, NONE, 66);
        // Row 1 is the first with a line, and first on its page, but not behind something.
        FormSheet y = Due.closed(4, "!*(n=0)", "n*");
        y.rows(2);
        Due.stands(y, Due.page(8, 9));
    }

    private static void manyPages() {
        String[] items = new String[16];
        items[0] = "\"" + "x".repeat(24);
        for (int i = 1; i < 16; i++) {
            items[i] = (char) ('a' + i) + "*";
        }
        FormSheet x = Due.closed(4, items);
        x.rows(4);
        Due.same("pages", x.pages(), 16);
        Due.same("the last", x.line(15, 1), 8 * 15 + 3);
        FormSheet y = Due.closed(4, "\"" + "x".repeat(36), "a*", "\"" + "x".repeat(36), "b*", "\"" + "x".repeat(36),
            "c*",
            "\"" + "x".repeat(36), "d*", "\"" + "x".repeat(36), "e*", "\"" + "x".repeat(36), "f*",
            "\"" + "x".repeat(36), "g*", "\"" + "x".repeat(36), "h*");
        y.rows(4);
        Due.same("pages", y.pages(), 32);
        Due.same("the header", y.line(31, 2), 8 * 14);
        Due.same("the last", y.place(15, 3), 32 * 31 + 3);
        Due.same("the caption", y.place(14, 0), 32 * 28);
    }

    private static void wrongAsked() {
        FormSheet x = Due.closed(4, "a", "n*", "\"c");
        int[][] nowhere = {{-1, 0}, {0, -1}, {3, 0}, {0, 1}, {1, 1}, {2, 1}, {16, 0}, {Integer.MAX_VALUE, 0},
            {Integer.MIN_VALUE, 0}, {0, Integer.MAX_VALUE}, {0, Integer.MIN_VALUE}, {1 << 30, 0}, {0, 1 << 30}};
        for (int[] at : nowhere) {
            Due.same("place " + at[0] + " " + at[1], x.place(at[0], at[1]), NONE);
        }
        int[][] noLine = {{-1, 0}, {0, -1}, {0, 3}, {0, 4}, {1, 0}, {63, 0}, {64, 0}, {Integer.MAX_VALUE, 0},
            {Integer.MIN_VALUE, 0}, {0, Integer.MAX_VALUE}, {0, Integer.MIN_VALUE}};
        for (int[] at : noLine) {
            Due.same("line " + at[0] + " " + at[1], x.line(at[0], at[1]), NONE);
        }
        Due.same("line", x.line(0, 2), 16);
    }
}
