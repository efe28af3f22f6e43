import java.util.Arrays;

/**
 * A test for each sentence that names a boundary case: Terms, values, faults, checks and messages; promises 8 set,
 * 9 get, 10 fault and 11 message.
 */
public final class EdgesOfValuesTest {
    private static final String VALUES = "Terms, values and faults";
    private static final String CHECKS = "Terms, checks and messages";
    private static final String SET = "Promise 8, set";
    private static final String GET = "Promise 9, get";
    private static final String FAULT = "Promise 10, fault";
    private static final String MESSAGE = "Promise 11, message";
    private static final int NONE = FormSheet.NONE;
    private static final long LIMIT = 1_000_000_000_000_000L;

    /** Items and rows that no form has, among them those whose numbers would wrap around to others. */
    private static final int[] NOT_THERE = {-1, -2, -4, -8, 16, 17, 64, 1 << 28, 1 << 29, 1 << 30, -(1 << 30),
        Integer.MAX_VALUE, Integer.MIN_VALUE};

    public static void main(String[] args) {
        toldAtFirst();
        lessOrEqual();
        choice();
        onlyOneIsLookedAt();
        sums();
        sumsBeyond();
        firstFault();
        faultOfTheOperation();
        faultsOfRows();
        hangsOnNamed();
        hangsOnWhatIsNotLookedAt();
        hangsOnAllRows();
        hangsOnFurther();
        hangsOnItself();
        hangsOnACircle();
        faultsShowAsZero();
        checksFail();
        messagesInOrder();
        setTellsHowMany();
        setNothingElse();
        setWhenOpen();
        setNoToldField();
        setNoRow();
        setBeyondTheLimits();
        getAValue();
        getOfAFault();
        getNothingThere();
        getWhenOpen();
        faultOfAField();
        faultOfACheck();
        faultNothingThere();
        faultWhenOpen();
        messageByNumber();
        messageNotThere();
        messageCount();
        messageWhenOpen();
        Due.end();
    }

    // Terms.

    private static void toldAtFirst() {
        Due.about(VALUES, "A field without an expression is TOLD (0 at first)");
        FormSheet x = Due.closed(4, "a", "b*", "c=1");
        Due.same("rows", x.rows(4), 6);
        Due.field(x, 0, 0, 0);
        Due.field(x, 1, 0, 0);
        Due.field(x, 1, 3, 0);
        Due.same("a told one", x.set(0, 0, 1), 0);
        Due.same("a told one with *", x.set(1, 3, 1), 0);
        Due.same("no told one", x.set(2, 0, 1), NONE);
    }

    private static void lessOrEqual() {
        Due.about(VALUES, "x < y and x = y are 1.00 or 0");
        long[][] pairs = {{0, 0}, {0, 1}, {1, 0}, {-1, 0}, {0, -1}, {LIMIT, LIMIT}, {LIMIT - 1, LIMIT}, {-LIMIT, LIMIT},
            {LIMIT, -LIMIT}, {-LIMIT, -LIMIT}, {-LIMIT, 1 - LIMIT}};
        for (long[] pair : pairs) {
            Due.worth("(a<b)", pair[0] < pair[1] ? 100 : 0, pair[0], pair[1]);
            Due.worth("(a=b)", pair[0] == pair[1] ? 100 : 0, pair[0], pair[1]);
        }
    }

    private static void choice() {
        Due.about(VALUES, "? takes its second part if the first is not 0, else the third");
        Due.worth("(a?b:c)", 300, 0, 200, 300);
        for (long first : new long[] {1, -1, 100, LIMIT, -LIMIT}) {
            Due.worth("(a?b:c)", 200, first, 200, 300);
        }
        // Rounded to 0.
        Due.worth("((a*0.5)?b:c)", 300, 1, 200, 300);
        Due.worth("((a*0.5)?b:c)", 200, 3, 200, 300);
        Due.worth("(1?0:3)", 0);
        Due.worth("(0?2:0)", 0);
    }

    private static void onlyOneIsLookedAt() {
        Due.about(VALUES, "and only that one is looked at");
        Due.worth("(1?3:(1/0))", 300);
        Due.worth("(0?(1/0):4)", 400);
        Due.worth("(1?(1/0):4)", Due.FAULT_2);
        Due.worth("(0?4:(1/0))", Due.FAULT_2);
        Due.worth("(1?(0?(1/0):5):(1/0))", 500);
        Due.worth("(1?3:(a*a))", 300, LIMIT);
        FormSheet x = Due.closed(4, "a", "b=(1/a)", "c=(a?b:7)", "d=(a?7:b)");
        Due.field(x, 2, 0, 700);
        Due.field(x, 3, 0, Due.FAULT_2);
        Due.same("set", x.set(0, 0, 400), 3);
        Due.field(x, 2, 0, 25);
        Due.field(x, 3, 0, 700);
    }

    private static void sums() {
        Due.about(VALUES, "# is the sum over all rows, from 0 on");
        FormSheet x = Due.closed(20, "a*", "b=#a", "c*=(a/#a)");
        Due.same("rows(4)", x.rows(4), 9);
        for (int row = 0; row < 4; row++) {
            Due.same("set", x.set(0, row, 1L << 2 * row), 5);
        }
        for (int rows : new int[] {4, 3, 2, 1, 0}) {
            Due.same("rows(" + rows + ")", x.rows(rows), 2 * rows + 1);
            Due.field(x, 1, 0, ((1L << 2 * rows) - 1) / 3);
        }
        Due.same("rows(3)", x.rows(3), 7);
        Due.same("set", x.set(0, 0, -300), 4);
        Due.same("set", x.set(0, 2, 300), 4);
        Due.field(x, 1, 0, 0);
        Due.field(x, 2, 1, Due.FAULT_2);
    }

    private static void sumsBeyond() {
        Due.about(VALUES, "exactly, FAULT 1 if it is beyond");
        sum(LIMIT, LIMIT, 0, 0, 0);
        sum(LIMIT, LIMIT - 1, 0, 0, 1);
        sum(Due.FAULT_1, LIMIT, 0, 0, 1);
        sum(-LIMIT, 0, 0, 0, -LIMIT);
        sum(Due.FAULT_1, -LIMIT, 0, 0, -1);
        sum(Due.FAULT_1, LIMIT, LIMIT, LIMIT, LIMIT);
        sum(Due.FAULT_1, -LIMIT, -LIMIT, -LIMIT, -LIMIT);
        // Beyond on the way, but not at the end.
        sum(LIMIT, LIMIT, LIMIT, -LIMIT, 0);
        sum(0, LIMIT, LIMIT, -LIMIT, -LIMIT);
        sum(-LIMIT, -LIMIT, -1, 0, 1);
        sum(Due.FAULT_1, LIMIT, LIMIT, 1, -LIMIT);
    }

    private static void sum(long valueOrFault, long... told) {
        FormSheet x = Due.closed(4, "a*", "b=#a");
        Due.same("rows", x.rows(told.length), told.length + 1);
        for (int row = 0; row < told.length; row++) {
            Due.same("set", x.set(0, row, told[row]), 1);
        }
        Due.field(x, 1, 0, valueOrFault);
    }

    private static void firstFault() {
        Due.about(VALUES,
            "A field's own fault is that of the first part, from the left, that has one and is looked at");
        for (String sign : new String[] {"+", "-", "*", "/", "<", "="}) {
            Due.worth("((1/0)" + sign + "(a*a))", Due.FAULT_2, LIMIT);
            Due.worth("((a*a)" + sign + "(1/0))", Due.FAULT_1, LIMIT);
            Due.worth("(1" + sign + "(a*a))", Due.FAULT_1, LIMIT);
            Due.worth("((1/0)" + sign + "1)", Due.FAULT_2, LIMIT);
            Due.worth("((1/0)" + sign + "(1/0))", Due.FAULT_2, LIMIT);
        }
        Due.worth("((1/0)?(a*a):(a*a))", Due.FAULT_2, LIMIT);
        Due.worth("((a*a)?(1/0):(1/0))", Due.FAULT_1, LIMIT);
        // That which is not looked at stands to the left.
        Due.worth("((0?(1/0):1)+(a*a))", Due.FAULT_1, LIMIT);
        Due.worth("(0?(1/0):(a*a))", Due.FAULT_1, LIMIT);
        FormSheet x = Due.closed(9, "a=a", "b=(1/0)", "c=(a+b)", "d=(b+a)", "e=d");
        Due.field(x, 2, 0, Due.FAULT_3);
        Due.field(x, 3, 0, Due.FAULT_2);
        Due.field(x, 4, 0, Due.FAULT_2);
    }

    private static void faultOfTheOperation() {
        Due.about(VALUES, "or else of the operation");
        Due.worth("(a*a)", Due.FAULT_1, LIMIT);
        Due.worth("(a/0)", Due.FAULT_2, LIMIT);
        // The part's fault comes before that of the quotient by 0.
        Due.worth("((a*a)/0)", Due.FAULT_1, LIMIT);
        Due.worth("((a+a)-a)", Due.FAULT_1, LIMIT);
        Due.worth("(0*(1/0))", Due.FAULT_2);
    }

    private static void faultsOfRows() {
        Due.about(VALUES, "the first part, from the left, that has one", "of the rows in a sum");
        FormSheet x = Due.closed(9, "a*", "b*=((a*a)/(a-1))", "c=#b");
        Due.same("rows", x.rows(3), 7);
        x.set(0, 0, 200);
        x.set(0, 1, LIMIT);
        x.set(0, 2, 100);
        Due.field(x, 2, 0, Due.FAULT_1);
        x.set(0, 1, 100);
        x.set(0, 2, LIMIT);
        Due.field(x, 2, 0, Due.FAULT_2);
        x.set(0, 1, 200);
        Due.field(x, 2, 0, Due.FAULT_1);
        x.set(0, 2, 200);
        Due.field(x, 2, 0, 1200);
    }

    private static void hangsOnNamed() {
        Due.about(VALUES, "A field HANGS on the told and worked out ones that its expression names");
        FormSheet x = Due.closed(9, "a", "b", "c=a", "d=(a+b)", "e=1", "!a");
        Due.same("set a", x.set(0, 0, 1), 2);
        Due.same("set b", x.set(1, 0, 1), 1);
        FormSheet y = Due.closed(9, "a*", "b*=a", "c*=(a+a)");
        Due.same("rows", y.rows(4), 12);
        Due.same("of the same row", y.set(0, 2, 1), 2);
    }

    private static void hangsOnWhatIsNotLookedAt() {
        Due.about(VALUES, "(also in parts that are not looked at;");
        FormSheet x = Due.closed(9, "a", "b=(0?a:1)", "c=(1?1:a)", "d=((1/0)+a)", "e=(0?e:1)", "f=(1?1:f)");
        Due.same("set", x.set(0, 0, 500), 3);
        Due.field(x, 1, 0, 100);
        Due.field(x, 3, 0, Due.FAULT_2);
        Due.field(x, 4, 0, Due.FAULT_3);
        Due.field(x, 5, 0, Due.FAULT_3);
    }

    private static void hangsOnAllRows() {
        Due.about(VALUES, "for # those of all rows)");
        FormSheet x = Due.closed(9, "a*", "b=#a", "c*=#a", "d*=(0?#d:1)");
        Due.same("rows(4)", x.rows(4), 13);
        for (int row = 0; row < 4; row++) {
            Due.same("set in row " + row, x.set(0, row, 1), 5);
            Due.field(x, 3, row, Due.FAULT_3);
        }
        // Without rows there are none of them.
        FormSheet y = Due.closed(9, "a=#b", "b*=a");
        Due.field(y, 0, 0, Due.FAULT_3);
        Due.same("rows(0)", y.rows(0), 1);
        Due.field(y, 0, 0, 0);
        Due.same("rows(2)", y.rows(2), 3);
        Due.field(y, 0, 0, Due.FAULT_3);
        Due.field(y, 1, 1, Due.FAULT_3);
    }

    private static void hangsOnFurther() {
        Due.about(VALUES, "and on what these hang on");
        // A chain of all 16 items, to either side.
        String[] down = new String[16];
        String[] up = new String[16];
        for (int i = 0; i < 16; i++) {
            down[i] = i == 0 ? "a" : (char) ('a' + i) + "=(" + (char) ('a' + i - 1) + "+1)";
            up[15 - i] = down[i];
        }
        FormSheet x = Due.closed(9, down);
        Due.same("set", x.set(0, 0, 500), 15);
        Due.field(x, 15, 0, 2000);
        FormSheet y = Due.closed(9, up);
        Due.same("set", y.set(15, 0, 500), 15);
        Due.field(y, 0, 0, 2000);
        // From a row to the sum, and from there to all rows.
        FormSheet z = Due.closed(9, "a*", "b*=a", "c=#b", "d*=c");
        Due.same("rows", z.rows(4), 13);
        Due.same("set", z.set(0, 3, 700), 6);
        Due.field(z, 3, 0, 700);
    }

    private static void hangsOnItself() {
        Due.about(VALUES, "One that hangs on itself has FAULT 3");
        FormSheet x = Due.closed(9, "a=a", "b=c", "c=d", "d=b", "e*=e", "f*=#f", "g=(0*g)", "h=((1/0)+h)");
        Due.same("rows", x.rows(2), 10);
        for (int item = 0; item < 8; item++) {
            Due.field(x, item, 0, Due.FAULT_3);
        }
        Due.field(x, 4, 1, Due.FAULT_3);
        Due.field(x, 5, 1, Due.FAULT_3);
        String[] circle = new String[16];
        for (int i = 0; i < 16; i++) {
            circle[i] = (char) ('a' + i) + "=" + (char) ('a' + (i + 1) % 16);
        }
        FormSheet y = Due.closed(9, circle);
        Due.same("a circle of all 16", y.count(4), 16);
        Due.field(y, 15, 0, Due.FAULT_3);
    }

    private static void hangsOnACircle() {
        Due.about(VALUES, "One that hangs on itself has FAULT 3", "and one that looks at such a one");
        FormSheet x = Due.closed(9, "a=(b+k)", "b=a", "c=(b+1)", "d=(k?b:7)", "k");
        Due.field(x, 2, 0, Due.FAULT_3);
        Due.field(x, 3, 0, 700);
        Due.same("those of the circle are worked out too", x.set(4, 0, 100), 4);
        Due.field(x, 3, 0, Due.FAULT_3);
        Due.same("set", x.set(4, 0, 0), 4);
        Due.field(x, 3, 0, 700);
    }

    private static void faultsShowAsZero() {
        Due.about(VALUES, "What has a fault shows as 0");
        FormSheet x = Due.closed(9, "a", "b=(a*a)", "c=(1/a)", "d=d");
        Due.same("set", x.set(0, 0, LIMIT), 2);
        Due.same("fault 1", x.get(1, 0), 0);
        Due.same("fault 3", x.get(3, 0), 0);
        Due.same("set", x.set(0, 0, 200), 2);
        Due.same("no fault", x.get(1, 0), 400);
        Due.same("no fault", x.get(2, 0), 50);
        Due.same("set", x.set(0, 0, 0), 2);
        Due.same("fault 2", x.fault(2, 0), 2);
        Due.same("fault 2", x.get(2, 0), 0);
    }

    private static void checksFail() {
        Due.about(CHECKS, "A check FAILS if its expression is 0 or has a fault");
        FormSheet x = Due.closed(9, "a", "!a", "!(1/a)", "!(a*a)", "!c", "c=c", "!(a=0)");
        long[] told = {0, 1, -1, 100, LIMIT, -LIMIT};
        int[][] due = {{1, 1, 1, 1, 0}, {0, 0, 1, 1, 1}, {0, 0, 1, 1, 1}, {0, 0, 0, 1, 1}, {0, 1, 1, 1, 1},
            {0, 1, 1, 1, 1}};
        int[] items = {1, 2, 3, 4, 6};
        for (int i = 0; i < told.length; i++) {
            Due.same("set", x.set(0, 0, told[i]), 0);
            for (int k = 0; k < items.length; k++) {
                Due.same(told[i] + ", check " + items[k], x.fault(items[k], 0), due[i][k]);
            }
        }
    }

    private static void messagesInOrder() {
        Due.about(CHECKS, "MESSAGES are the checks that fail, by their items, then by rows");
        FormSheet x = Due.closed(9, "!*a", "!b", "a*", "b", "!*(1/a)");
        Due.same("rows", x.rows(4), 5);
        Due.same("set", x.set(2, 1, 100), 0);
        int[] due = {0, 2, 3, 8, 32, 34, 35};
        for (int k = 0; k < due.length; k++) {
            Due.same("message(" + k + ")", x.message(k), due[k]);
        }
        Due.same("message(-1)", x.message(-1), due.length);
        // A field with a fault is no check.
        FormSheet y = Due.closed(9, "a=(1/0)", "!1");
        Due.same("message(-1)", y.message(-1), 0);
    }

    // Promise 8.

    private static void setTellsHowMany() {
        Due.about(SET, "A told field gets a value: how many were worked out anew (all that hang on it)");
        FormSheet x = Due.closed(9, "a", "b", "c=a", "d=c", "e=1", "!a", "n*", "m*=(n+a)", "s=#m");
        Due.same("rows", x.rows(3), 12);
        Due.same("all that hang on a", x.set(0, 0, 500), 6);
        Due.same("with the value that it has", x.set(0, 0, 500), 6);
        Due.same("none hangs on b", x.set(1, 0, 500), 0);
        Due.same("a row and the sum", x.set(6, 2, 300), 2);
        Due.field(x, 3, 0, 500);
        Due.field(x, 8, 0, 1800);
        Due.same("rows", x.rows(0), 6);
        Due.same("without rows the sum hangs on nothing", x.set(0, 0, 1), 2);
        FormSheet most = Due.closed(9, "a", "b*=a", "c*=a", "d*=a", "e*=a", "f*=a", "g*=a", "h*=a", "i*=a", "j*=a",
            "k*=a",
            "l*=a", "m*=a", "n*=a", "o*=a", "p*=a");
        Due.same("rows", most.rows(4), 61);
        Due.same("60 of them", most.set(0, 0, 700), 60);
        Due.field(most, 15, 3, 700);
    }

    private static void setNothingElse() {
        Due.about("What it is", "what a told value changes is worked out anew, and nothing else");
        FormSheet x = Due.closed(9, "a*", "b", "c*=(a+b)", "d*=(a*2)", "e=#d");
        Due.same("rows", x.rows(2), 8);
        Due.same("set", x.set(0, 0, 100), 3);
        Due.same("set", x.set(0, 1, 200), 3);
        Due.same("set b", x.set(1, 0, 1000), 2);
        Due.field(x, 0, 0, 100);
        Due.field(x, 0, 1, 200);
        Due.field(x, 2, 0, 1100);
        Due.field(x, 2, 1, 1200);
        Due.field(x, 3, 1, 400);
        Due.field(x, 4, 0, 600);
    }

    private static void setWhenOpen() {
        Due.about(SET, "NONE if it is open");
        FormSheet x = Due.open(9, "a");
        Due.same("set", x.set(0, 0, 100), NONE);
        Due.same("close", Due.close(x), 1);
        Due.same("nothing was told", x.get(0, 0), 0);
        x.clear();
        Due.same("cleared", x.set(0, 0, 100), NONE);
    }

    private static void setNoToldField() {
        Due.about(SET, "NONE if [..] there is no such told field");
        FormSheet x = Due.closed(9, "a", "b=a", "c*=a", "!1", "!*1", "\"x", "d=d");
        for (int item = 1; item <= 6; item++) {
            Due.same("set of item " + item, x.set(item, 0, 500), NONE);
        }
        Due.same("one behind the last", x.set(7, 0, 500), NONE);
        for (int item : NOT_THERE) {
            Due.same("set of item " + item, x.set(item, 0, 500), NONE);
        }
        Due.field(x, 0, 0, 0);
        Due.field(x, 1, 0, 0);
    }

    private static void setNoRow() {
        Due.about(SET, "NONE if [..] there is no such told field or row");
        FormSheet x = Due.closed(9, "a", "b*", "c", "d=(a+(#b+c))");
        Due.same("rows", x.rows(3), 6);
        for (int row : NOT_THERE) {
            Due.same("row " + row, x.set(0, row, 500), NONE);
            Due.same("row " + row + " of those with *", x.set(1, row, 500), NONE);
            Due.same("row " + row, x.set(2, row, 500), NONE);
        }
        Due.same("row 1", x.set(0, 1, 500), NONE);
        Due.same("row 4", x.set(0, 4, 500), NONE);
        Due.same("row 3 of 3", x.set(1, 3, 500), NONE);
        Due.same("row 4 of 3", x.set(1, 4, 500), NONE);
        Due.field(x, 3, 0, 0);
        Due.same("row 2 of 3", x.set(1, 2, 500), 1);
        Due.same("rows(4)", x.rows(4), 7);
        Due.same("row 4 of 4", x.set(1, 4, 500), NONE);
        Due.field(x, 3, 0, 500);
    }

    private static void setBeyondTheLimits() {
        Due.about(SET, "NONE if [..] the value is beyond the limits");
        FormSheet x = Due.closed(9, "a", "b=(a+0)");
        for (long inside : new long[] {LIMIT, -LIMIT}) {
            Due.same("set " + inside, x.set(0, 0, inside), 1);
            for (long outside : new long[] {LIMIT + 1, -LIMIT - 1, Long.MAX_VALUE, Long.MIN_VALUE, 10 * LIMIT + 1}) {
                Due.same("set " + outside, x.set(0, 0, outside), NONE);
                Due.field(x, 0, 0, inside);
                Due.field(x, 1, 0, inside);
            }
        }
    }

    // Promise 9.

    private static void getAValue() {
        Due.about(GET, "The value of a field");
        FormSheet x = Due.closed(9, "a", "b*=(a+1)");
        Due.same("rows", x.rows(4), 5);
        for (long value : new long[] {LIMIT - 100, -LIMIT, -1, 0, 1}) {
            Due.same("set", x.set(0, 0, value), 4);
            Due.same("get(0, 0)", x.get(0, 0), value);
            Due.same("get(1, 3)", x.get(1, 3), value + 100);
        }
    }

    private static void getOfAFault() {
        Due.about(GET, "0 if it has a fault");
        FormSheet x = Due.closed(9, "a", "b=(5/a)", "c=(b*0.02)", "d=d");
        Due.same("fault 2", x.get(1, 0), 0);
        Due.same("fault 2 of its part", x.get(2, 0), 0);
        Due.same("fault 3", x.get(3, 0), 0);
        Due.same("set", x.set(0, 0, 1), 2);
        Due.same("none", x.get(1, 0), 50_000);
        Due.same("set", x.set(0, 0, 0), 2);
        Due.same("fault 2 again", x.get(1, 0), 0);
    }

    private static void getNothingThere() {
        Due.about(GET, "or there is none");
        FormSheet x = Due.closed(9, "a", "b*", "!7", "!*7", "\"x", "c");
        Due.same("rows", x.rows(4), 6);
        x.set(0, 0, 700);
        x.set(5, 0, 700);
        for (int row = 0; row < 4; row++) {
            x.set(1, row, 700);
        }
        Due.same("a check", x.get(2, 0), 0);
        Due.same("a check with *", x.get(3, 0), 0);
        Due.same("a caption", x.get(4, 0), 0);
        Due.same("one behind the last", x.get(6, 0), 0);
        Due.same("row 1 of what has one", x.get(0, 1), 0);
        Due.same("row 4", x.get(0, 4), 0);
        Due.same("row 4 of 4", x.get(1, 4), 0);
        Due.same("rows(2)", x.rows(2), 4);
        Due.same("row 2 of 2", x.get(1, 2), 0);
        for (int no : NOT_THERE) {
            Due.same("item " + no, x.get(no, 0), 0);
            Due.same("row " + no, x.get(0, no), 0);
            Due.same("row " + no + " of those with *", x.get(1, no), 0);
            Due.same("row " + no, x.get(5, no), 0);
        }
    }

    private static void getWhenOpen() {
        Due.about(GET, "(or the form is open)");
        FormSheet x = Due.open(9, "a=7");
        Due.same("get", x.get(0, 0), 0);
        Due.same("close", Due.close(x), 1);
        Due.same("get", x.get(0, 0), 700);
        x.clear();
        Due.same("cleared", x.get(0, 0), 0);
        Due.same("add", Due.add(x, "a=7"), 0);
        Due.same("open again", x.get(0, 0), 0);
    }

    // Promise 10.

    private static void faultOfAField() {
        Due.about(FAULT, "Its fault, 0 for none");
        FormSheet x = Due.closed(9, "a", "b*=(a*a)", "c=(1/a)", "d=d");
        Due.same("rows", x.rows(2), 5);
        Due.same("of a told one", x.fault(0, 0), 0);
        Due.same("none", x.fault(1, 1), 0);
        Due.same("fault 2", x.fault(2, 0), 2);
        Due.same("fault 3", x.fault(3, 0), 3);
        Due.same("set", x.set(0, 0, LIMIT), 3);
        Due.same("of a told one", x.fault(0, 0), 0);
        Due.same("fault 1", x.fault(1, 0), 1);
        Due.same("fault 1 in row 1", x.fault(1, 1), 1);
        Due.same("none", x.fault(2, 0), 0);
    }

    private static void faultOfACheck() {
        Due.about(FAULT, "of a check: 1 if it fails, else 0");
        FormSheet x = Due.closed(9, "a", "!a", "!*(5/a)", "!d", "d=d");
        Due.same("rows", x.rows(2), 2);
        Due.same("0", x.fault(1, 0), 1);
        Due.same("fault 2", x.fault(2, 1), 1);
        Due.same("fault 3", x.fault(3, 0), 1);
        Due.same("set", x.set(0, 0, -1), 0);
        Due.same("-0.01", x.fault(1, 0), 0);
        Due.same("-500", x.fault(2, 1), 0);
    }

    private static void faultNothingThere() {
        Due.about(FAULT, "NONE if there is no such field, check or row");
        FormSheet x = Due.closed(9, "a=(1/0)", "b*=(1/0)", "!0", "!*0", "\"x");
        Due.same("rows", x.rows(2), 3);
        Due.same("a caption", x.fault(4, 0), NONE);
        Due.same("one behind the last", x.fault(5, 0), NONE);
        for (int item = 0; item < 4; item++) {
            int rows = item % 2 == 0 ? 1 : 2;
            Due.same("the last row of " + item, x.fault(item, rows - 1) > 0, true);
            for (int row = rows; row <= 8; row++) {
                Due.same("row " + row + " of " + item, x.fault(item, row), NONE);
            }
            for (int no : NOT_THERE) {
                Due.same("item " + no, x.fault(no, item), NONE);
                Due.same("row " + no + " of " + item, x.fault(item, no), NONE);
            }
        }
        Due.same("rows(0)", x.rows(0), 1);
        Due.same("row 0 of none", x.fault(1, 0), NONE);
        Due.same("row 0 of none", x.fault(3, 0), NONE);
    }

    private static void faultWhenOpen() {
        Due.about(FAULT, "NONE if there is no such field, check or row (or the form is open)");
        FormSheet x = Due.open(9, "a=(1/0)", "!0");
        Due.same("a field", x.fault(0, 0), NONE);
        Due.same("a check", x.fault(1, 0), NONE);
        Due.same("close", Due.close(x), 1);
        Due.same("a field", x.fault(0, 0), 2);
        x.clear();
        Due.same("cleared", x.fault(0, 0), NONE);
    }

    // Promise 11.

    private static void messageByNumber() {
        Due.about(MESSAGE, "Message k: 8 * item + row");
        String[] items = new String[16];
        Arrays.fill(items, "!*0");
        FormSheet x = Due.closed(9, items);
        Due.same("rows", x.rows(4), 0);
        for (int k = 0; k < 64; k++) {
            Due.same("message(" + k + ")", x.message(k), 8 * (k / 4) + k % 4);
        }
        Due.same("message(-1)", x.message(-1), 64);
        Due.same("message(64)", x.message(64), NONE);
    }

    private static void messageNotThere() {
        Due.about(MESSAGE, "NONE if there is none");
        FormSheet x = Due.closed(9, "a", "!a", "!1");
        Due.same("message(0)", x.message(0), 8);
        for (int k : new int[] {1, 2, -2, -3, 64, 1 << 30, Integer.MAX_VALUE, Integer.MIN_VALUE}) {
            Due.same("message(" + k + ")", x.message(k), NONE);
        }
        Due.same("set", x.set(0, 0, 1), 0);
        Due.same("message(0)", x.message(0), NONE);
        FormSheet empty = Due.closed(9);
        Due.same("of the empty form", empty.message(0), NONE);
    }

    private static void messageCount() {
        Due.about(MESSAGE, "How many there are if k is -1");
        FormSheet x = Due.closed(9, "a*", "!*a", "!#a", "!1");
        for (int rows : new int[] {1, 4, 0}) {
            Due.same("rows(" + rows + ")", x.rows(rows), rows);
            Due.same("message(-1)", x.message(-1), rows + 1);
        }
        Due.same("rows(1)", x.rows(1), 1);
        Due.same("set", x.set(0, 0, 1), 0);
        Due.same("message(-1)", x.message(-1), 0);
        Due.same("of the empty form", Due.closed(9).message(-1), 0);
    }

    private static void messageWhenOpen() {
        Due.about(MESSAGE, "(0 if the form is open)");
        FormSheet x = Due.open(9, "!0");
        Due.same("message(-1)", x.message(-1), 0);
        Due.same("message(0)", x.message(0), NONE);
        Due.same("message(-2)", x.message(-2), NONE);
        Due.same("close", Due.close(x), 0);
        Due.same("message(-1)", x.message(-1), 1);
        x.clear();
        Due.same("cleared", x.message(-1), 0);
        Due.same("cleared", x.message(0), NONE);
    }
}
