/** Promises 6 clear and 7 rows: longer runs of calls. */
public final class FormTest {
    public static void main(String[] args) {
        clearing();
        changingRows();
        Due.end();
    }

    private static void clearing() {
        FormSheet x = Due.closed(5, "a*", "b=#a", "!b");
        Due.same("rows", x.rows(3), 4);
        Due.same("set", x.set(0, 0, 500), 1);
        Due.same("set", x.set(0, 2, 700), 1);
        x.clear();
        Due.same("items", x.count(0), 0);
        Due.same("rows", x.count(1), 1);
        Due.same("height", x.count(2), 5);
        Due.same("closed", x.count(3), 0);
        Due.unanswered(x);
        Due.same("a name that was there", Due.add(x, "a*"), 0);
        Due.same("another", Due.add(x, "s=#a"), 1);
        Due.same("a name that is gone", Due.add(x, "c=b"), 2);
        Due.same("close", Due.close(x), Due.ARGUMENT);
        x.clear();
        Due.same("add", Due.add(x, "a*"), 0);
        Due.same("close", Due.close(x), 1);
        Due.same("told anew", x.get(0, 0), 0);
        Due.same("rows", x.rows(4), 4);
        Due.same("told anew", x.get(0, 2), 0);

        Due.write(x, "\"cap");
        x.clear();
        Due.write(x, "tion");
        Due.same("the text is not the form", Due.add(x), 0);
        Due.same("close", Due.close(x), 0);
        Due.same("close again", Due.close(x), Due.STATE);
    }

    private static void changingRows() {
        FormSheet x = Due.closed(20, "a", "n*", "t*=(n*2)", "s=#n", "u=#t", "!*n");
        Due.same("set", x.set(1, 0, 500), 3);
        Due.same("set", x.set(0, 0, 900), 0);
        Due.same("rows(-1)", x.rows(-1), FormSheet.NONE);
        Due.same("rows(5)", x.rows(5), FormSheet.NONE);
        Due.same("rows(min)", x.rows(Integer.MIN_VALUE), FormSheet.NONE);
        Due.same("count(1)", x.count(1), 1);
        Due.same("rows(4)", x.rows(4), 11);
        Due.same("count(1)", x.count(1), 4);
        Due.same("kept", x.get(1, 0), 500);
        Due.same("new", x.get(1, 3), 0);
        Due.same("set", x.set(1, 3, 100), 3);
        Due.same("set", x.set(1, 1, 200), 3);
        Due.same("sum", x.get(3, 0), 800);
        Due.same("messages", x.message(-1), 1);
        Due.same("rows(2)", x.rows(2), 7);
        Due.same("sum", x.get(3, 0), 700);
        Due.same("sum of the doubles", x.get(4, 0), 1400);
        Due.same("messages", x.message(-1), 0);
        Due.same("pages' line", x.line(0, 7), FormSheet.NONE);
        Due.same("gone", x.set(1, 2, 100), FormSheet.NONE);
        Due.same("rows(2) again", x.rows(2), 7);
        Due.same("kept", x.get(1, 1), 200);
        Due.same("rows(4)", x.rows(4), 11);
        Due.same("gone for good", x.get(1, 3), 0);
        Due.same("kept", x.get(1, 1), 200);
        Due.same("rows(0)", x.rows(0), 3);
        Due.same("sum of none", x.get(3, 0), 0);
        Due.same("no row 0", x.fault(1, 0), FormSheet.NONE);
        Due.same("no messages", x.message(-1), 0);
        Due.same("rows(1)", x.rows(1), 5);
        Due.same("row 0 is new", x.get(1, 0), 0);
        Due.same("what does not repeat is kept", x.get(0, 0), 900);

        FormSheet circle = Due.closed(4, "s=#t", "t*=s", "u=s");
        Due.field(circle, 0, 0, Due.FAULT_3);
        Due.field(circle, 2, 0, Due.FAULT_3);
        Due.same("rows(0)", circle.rows(0), 2);
        Due.field(circle, 0, 0, 0);
        Due.field(circle, 2, 0, 0);
        Due.same("rows(2)", circle.rows(2), 4);
        Due.field(circle, 1, 1, Due.FAULT_3);
        Due.same("count(4)", circle.count(4), 4);
    }
}
