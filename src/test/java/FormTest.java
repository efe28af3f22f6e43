/** Promises 1 a new object, 5 close, 6 clear, 7 rows and 15 count. */
public final class FormTest {
    public static void main(String[] args) {
        heights();
        newObject();
        closing();
        clearing();
        changingRows();
        counting();
        Due.end();
    }

    private static void heights() {
        int[][] told = {{Integer.MIN_VALUE, 4}, {-1, 4}, {0, 4}, {3, 4}, {4, 4}, {5, 5}, {19, 19}, {20, 20}, {21, 20},
            {Integer.MAX_VALUE, 20}};
        for (int[] pair : told) {
            Due.same("height " + pair[0], new FormSheet(pair[0]).count(2), pair[1]);
        }
    }

    private static void newObject() {
        FormSheet x = new FormSheet(7);
        Due.same("items", x.count(0), 0);
        Due.same("rows", x.count(1), 1);
        Due.same("closed", x.count(3), 0);
        unanswered(x);
        Due.same("nothing to add", Due.add(x), Due.ARGUMENT);
        Due.same("close", Due.close(x), 0);
        Due.same("closed", x.count(3), 1);
    }

    /** What all the calls answer that want a closed form, when it is open. */
    private static void unanswered(FormSheet x) {
        Due.same("rows", x.rows(2), FormSheet.NONE);
        Due.same("set", x.set(0, 0, 1), FormSheet.NONE);
        Due.same("get", x.get(0, 0), 0);
        Due.same("fault", x.fault(0, 0), FormSheet.NONE);
        Due.same("message(-1)", x.message(-1), 0);
        Due.same("message(0)", x.message(0), FormSheet.NONE);
        Due.same("place", x.place(0, 0), FormSheet.NONE);
        Due.same("pages", x.pages(), 0);
        Due.same("line", x.line(0, 0), FormSheet.NONE);
        Due.same("count(4)", x.count(4), 0);
    }

    private static void closing() {
        closes(0);
        closes(0, "!1", "\"caption");
        closes(2, "a", "b=a");
        closes(2, "b=a", "a");
        closes(1, "a=a");
        closes(2, "a*", "b=#a");
        closes(2, "a*", "b*=a");
        closes(2, "a*", "b*=#a");
        closes(2, "a", "b*=a");
        closes(1, "a*", "!*(a<#a)");
        closes(1, "a", "!*a");
        closes(3, "c", "a*=(a?c:#b)", "b*");
        closesNot("b=a");
        closesNot("a", "b=aa");
        closesNot("aa", "b=a");
        closesNot("ab", "b=ba");
        closesNot("a*", "b=a");
        closesNot("a*", "!a");
        closesNot("a", "b=#a");
        closesNot("a", "b*=#a");
        closesNot("a", "!*#a");
        closesNot("!#a");
        closesNot("a", "b=(1+(a?1:x))");
        closesNot("a", "b=(1+(a?x:1))");
        closesNot("a", "b=(1+(x?a:1))");
        closesNot("a", "b=((1+x)+a)");

        FormSheet x = Due.closed(4, "a");
        Due.same("close again", Due.close(x), Due.STATE);
        Due.same("still closed", x.count(3), 1);
    }

    private static void closes(int values, String... items) {
        FormSheet x = Due.open(4, items);
        Due.same("close " + String.join(" ", items), Due.close(x), values);
        Due.same("count(3)", x.count(3), 1);
    }

    private static void closesNot(String... items) {
        FormSheet x = Due.open(4, items);
        Due.same("close " + String.join(" ", items), Due.close(x), Due.ARGUMENT);
        Due.same("count(3)", x.count(3), 0);
        unanswered(x);
        Due.same("still open", Due.add(x, "x"), items.length);
    }

    private static void clearing() {
        FormSheet x = Due.closed(5, "a*", "b=#a", "!b");
        Due.same("rows", x.rows(3), 4);
        Due.same("set", x.set(0, 0, 500), 1);
        Due.same("set", x.set(0, 2, 700), 1);
        x.clear();
        Due.same("items", x.count(0), 0);
        Due.same("rows", x.count(1), 1);
        Due.same("height", x.count(2), 5);
        Due.same("closed", x.count(3), 0);
        unanswered(x);
        Due.same("a name that was there", Due.add(x, "a*"), 0);
        Due.same("another", Due.add(x, "s=#a"), 1);
        Due.same("a name that is gone", Due.add(x, "c=b"), 2);
        Due.same("close", Due.close(x), Due.ARGUMENT);
        x.clear();
        Due.same("add", Due.add(x, "a*"), 0);
        Due.same("close", Due.close(x), 1);
        Due.same("told anew", x.get(0, 0), 0);
        Due.same("rows", x.rows(4), 4);
        Due.same("told anew", x.get(0, 2), 0);

        Due.write(x, "\"cap");
        x.clear();
        Due.write(x, "tion");
        Due.same("the text is not the form", Due.add(x), 0);
        Due.same("close", Due.close(x), 0);
        Due.same("close again", Due.close(x), Due.STATE);
    }

    private static void changingRows() {
        FormSheet x = Due.closed(20, "a", "n*", "t*=(n*2)", "s=#n", "u=#t", "!*n");
        Due.same("set", x.set(1, 0, 500), 3);
        Due.same("set", x.set(0, 0, 900), 0);
        Due.same("rows(-1)", x.rows(-1), FormSheet.NONE);
        Due.same("rows(5)", x.rows(5), FormSheet.NONE);
        Due.same("rows(min)", x.rows(Integer.MIN_VALUE), FormSheet.NONE);
        Due.same("count(1)", x.count(1), 1);
        Due.same("rows(4)", x.rows(4), 11);
        Due.same("count(1)", x.count(1), 4);
        Due.same("kept", x.get(1, 0), 500);
        Due.same("new", x.get(1, 3), 0);
        Due.same("set", x.set(1, 3, 100), 3);
        Due.same("set", x.set(1, 1, 200), 3);
        Due.same("sum", x.get(3, 0), 800);
        Due.same("messages", x.message(-1), 1);
        Due.same("rows(2)", x.rows(2), 7);
        Due.same("sum", x.get(3, 0), 700);
        Due.same("sum of the doubles", x.get(4, 0), 1400);
        Due.same("messages", x.message(-1), 0);
        Due.same("pages' line", x.line(0, 7), FormSheet.NONE);
        Due.same("gone", x.set(1, 2, 100), FormSheet.NONE);
        Due.same("rows(2) again", x.rows(2), 7);
        Due.same("kept", x.get(1, 1), 200);
        Due.same("rows(4)", x.rows(4), 11);
        Due.same("gone for good", x.get(1, 3), 0);
        Due.same("kept", x.get(1, 1), 200);
        Due.same("rows(0)", x.rows(0), 3);
        Due.same("sum of none", x.get(3, 0), 0);
        Due.same("no row 0", x.fault(1, 0), FormSheet.NONE);
        Due.same("no messages", x.message(-1), 0);
        Due.same("rows(1)", x.rows(1), 5);
        Due.same("row 0 is new", x.get(1, 0), 0);
        Due.same("what does not repeat is kept", x.get(0, 0), 900);

        FormSheet circle = Due.closed(4, "s=#t", "t*=s", "u=s");
        Due.field(circle, 0, 0, -3);
        Due.field(circle, 2, 0, -3);
        Due.same("rows(0)", circle.rows(0), 2);
        Due.field(circle, 0, 0, 0);
        Due.field(circle, 2, 0, 0);
        Due.same("rows(2)", circle.rows(2), 4);
        Due.field(circle, 1, 1, -3);
        Due.same("count(4)", circle.count(4), 4);
    }

    private static void counting() {
        FormSheet x = Due.open(9, "a", "q*=(1/a)", "s=#q", "!s", "\"x");
        Due.same("items", x.count(0), 5);
        Due.same("faults, open", x.count(4), 0);
        Due.same("close", Due.close(x), 3);
        Due.same("rows", x.rows(3), 5);
        Due.same("items", x.count(0), 5);
        Due.same("rows", x.count(1), 3);
        Due.same("height", x.count(2), 9);
        Due.same("closed", x.count(3), 1);
        Due.same("faults; a check is no value", x.count(4), 4);
        Due.same("set", x.set(0, 0, 100), 4);
        Due.same("faults", x.count(4), 0);
        x.set(0, 0, 0);
        x.clear();
        Due.same("add", Due.add(x, "a"), 0);
        Due.same("add", Due.add(x, "b=(1/0)"), 1);
        Due.same("faults, open again", x.count(4), 0);
        for (int what : new int[] {-1, 5, 6, Integer.MAX_VALUE, Integer.MIN_VALUE}) {
            Due.same("count(" + what + ")", x.count(what), FormSheet.NONE);
        }
    }
}
