/** Promises 8 set, 9 get, 10 fault and 11 message: forms of many items. */
public final class ValuesTest {
    private static final long LIMIT = 1_000_000_000_000_000L;

    public static void main(String[] args) {
        numbers();
        faults();
        circles();
        totals();
        telling();
        asking();
        messages();
        Due.end();
    }

    private static void numbers() {
        Due.worth("7", 700);
        Due.worth("0.5", 50);
        Due.worth("0.05", 5);
        Due.worth("12.34", 1234);
        Due.worth("000001", 100);
        Due.worth("999999.99", 99_999_999);
        Due.worth("(1+2.5)", 350);
        Due.worth("(1-2.5)", -150);
        Due.worth("(1<2)", 100);
        Due.worth("(2<2)", 0);
        Due.worth("(3<2)", 0);
        Due.worth("(2=2.00)", 100);
        Due.worth("(2=2.01)", 0);
        Due.worth("(0.01?5:6)", 500);
        Due.worth("(0?5:6)", 600);
        Due.worth("((0-1)?5:6)", 500);
        Due.worth("((1+2)*(3-4))", -300);
        Due.worth("(a-(b-a))", -100, 100, 300);
        Due.worth("(a/b)", -50, -100, 200);
    }

    private static void faults() {
        Due.worth("(1/0)", Due.FAULT_2);
        Due.worth("(0/0)", Due.FAULT_2);
        Due.worth("((a*a)+(1/0))", Due.FAULT_1, LIMIT);
        Due.worth("((1/0)+(a*a))", Due.FAULT_2, LIMIT);
        Due.worth("(0*(1/0))", Due.FAULT_2);
        Due.worth("((1/0)/0)", Due.FAULT_2);
        Due.worth("((a*a)/0)", Due.FAULT_1, LIMIT);
        Due.worth("((1/0)<1)", Due.FAULT_2);
        Due.worth("((1/0)=(1/0))", Due.FAULT_2);
        Due.worth("((1/0)?1:2)", Due.FAULT_2);
        Due.worth("((1/0)?1:(a*a))", Due.FAULT_2, LIMIT);
        Due.worth("(1?3:(1/0))", 300);
        Due.worth("(0?(1/0):4)", 400);
        Due.worth("(0?4:(1/0))", Due.FAULT_2);
        Due.worth("(1?(1/0):4)", Due.FAULT_2);
        // Faults go on through names.
        FormSheet x = Due.closed(9, "a", "b=(1/a)", "c=(b+1)", "d=(a?c:9)", "!c", "!d");
        Due.field(x, 1, 0, Due.FAULT_2);
        Due.field(x, 2, 0, Due.FAULT_2);
        Due.field(x, 3, 0, 900);
        Due.same("a check with a fault fails", x.fault(4, 0), 1);
        Due.same("a check", x.fault(5, 0), 0);
        Due.same("count(4)", x.count(4), 2);
        Due.same("set", x.set(0, 0, 200), 3);
        Due.field(x, 1, 0, 50);
        Due.field(x, 3, 0, 150);
        Due.same("a check", x.fault(4, 0), 0);
    }

    private static void circles() {
        FormSheet x = Due.closed(9, "a=a", "b=(0?b:1)", "c=(d+1)", "d=(0*e)", "e=c", "f=(1?2:a)", "g=(1/0)", "h=(g+a)",
            "i=(a+g)", "j=h");
        Due.field(x, 0, 0, Due.FAULT_3);
        Due.field(x, 1, 0, Due.FAULT_3);
        Due.field(x, 2, 0, Due.FAULT_3);
        Due.field(x, 3, 0, Due.FAULT_3);
        Due.field(x, 4, 0, Due.FAULT_3);
        Due.field(x, 5, 0, 200);
        Due.field(x, 7, 0, Due.FAULT_2);
        Due.field(x, 8, 0, Due.FAULT_3);
        Due.field(x, 9, 0, Due.FAULT_2);
        Due.same("count(4)", x.count(4), 9);

        // Rows are apart from one another unless # joins them.
        FormSheet y = Due.closed(9, "k", "r*=(k+p)", "p*", "q*=(0?#q:1)", "t*=(0?#u:p)", "u*=(t+1)", "v=#r");
        Due.same("rows", y.rows(2), 12);
        Due.same("set p in row 1", y.set(2, 1, 300), 6);
        Due.field(y, 1, 0, 0);
        Due.field(y, 1, 1, 300);
        Due.field(y, 3, 0, Due.FAULT_3);
        Due.field(y, 4, 1, Due.FAULT_3);
        Due.field(y, 5, 0, Due.FAULT_3);
        Due.field(y, 6, 0, 300);
        Due.same("set k", y.set(0, 0, 100), 3);
        Due.field(y, 6, 0, 500);
    }

    private static void totals() {
        FormSheet x = Due.closed(9, "n*", "q*=(1/n)", "s=#n", "w=#q", "z*=(n/#n)", "e*=((n=1)?(n*1):((n=2)?(1/0):1))",
            "f=#e");
        Due.field(x, 2, 0, 0);
        Due.field(x, 3, 0, Due.FAULT_2);
        Due.same("rows", x.rows(4), 19);
        for (int row = 0; row < 4; row++) {
            Due.same("set", x.set(0, row, 100 * (row + 1)), 9);
        }
        Due.field(x, 2, 0, 1000);
        Due.field(x, 3, 0, 100 + 50 + 33 + 25);
        Due.field(x, 4, 3, 40);
        Due.field(x, 4, 0, 10);
        Due.field(x, 6, 0, Due.FAULT_2);
        x.set(0, 0, LIMIT);
        x.set(0, 1, LIMIT);
        x.set(0, 2, -LIMIT);
        x.set(0, 3, 0);
        // Exactly: what is beyond on the way does not count.
        Due.field(x, 2, 0, LIMIT);
        x.set(0, 3, 1);
        Due.field(x, 2, 0, Due.FAULT_1);
        x.set(0, 3, -LIMIT);
        Due.field(x, 2, 0, 0);
        Due.field(x, 4, 0, Due.FAULT_2);
        x.set(0, 0, -1);
        x.set(0, 1, 0);
        x.set(0, 2, 0);
        Due.field(x, 2, 0, Due.FAULT_1);

        // The first row's fault is the sum's.
        FormSheet y = Due.closed(9, "n*", "q*=((n*n)/(n-1))", "s=#q");
        y.rows(3);
        y.set(0, 0, 200);
        y.set(0, 1, LIMIT);
        y.set(0, 2, 100);
        Due.field(y, 2, 0, Due.FAULT_1);
        y.set(0, 0, 100);
        Due.field(y, 2, 0, Due.FAULT_2);
    }

    private static void telling() {
        FormSheet x = Due.closed(9, "a", "b=a", "c=(b+b)", "d=(0?a:1)", "e", "!a", "n*", "m*=(n+a)", "s=#m", "\"x");
        Due.same("rows", x.rows(3), 12);
        Due.same("all that hang on it", x.set(0, 0, 500), 7);
        Due.same("the same again", x.set(0, 0, 500), 7);
        Due.same("none", x.set(4, 0, 500), 0);
        Due.same("a row", x.set(6, 1, 500), 2);
        Due.same("the most", x.set(4, 0, LIMIT), 0);
        Due.same("the least", x.set(4, 0, -LIMIT), 0);
        Due.same("get", x.get(4, 0), -LIMIT);
        Due.same("too much", x.set(4, 0, LIMIT + 1), FormSheet.NONE);
        Due.same("too little", x.set(4, 0, -LIMIT - 1), FormSheet.NONE);
        Due.same("far too much", x.set(4, 0, Long.MAX_VALUE), FormSheet.NONE);
        Due.same("far too little", x.set(4, 0, Long.MIN_VALUE), FormSheet.NONE);
        Due.same("nothing changed", x.get(4, 0), -LIMIT);
        Due.same("worked out", x.set(1, 0, 1), FormSheet.NONE);
        Due.same("a check", x.set(5, 0, 1), FormSheet.NONE);
        Due.same("a caption", x.set(9, 0, 1), FormSheet.NONE);
        Due.same("worked out, with rows", x.set(7, 0, 1), FormSheet.NONE);
        int[][] nowhere = {{-1, 0}, {10, 0}, {16, 0}, {0, 1}, {0, -1}, {6, 3}, {6, -1}, {6, 4},
            {Integer.MAX_VALUE, 0}, {Integer.MIN_VALUE, 0}, {6, Integer.MAX_VALUE}, {6, Integer.MIN_VALUE},
            {1 << 30, 0}, {0, 1 << 30}};
        for (int[] at : nowhere) {
            Due.same("set " + at[0] + " " + at[1], x.set(at[0], at[1], 1), FormSheet.NONE);
            Due.same("get " + at[0] + " " + at[1], x.get(at[0], at[1]), 0);
            Due.same("fault " + at[0] + " " + at[1], x.fault(at[0], at[1]), FormSheet.NONE);
        }
        Due.same("sum", x.get(8, 0), 2000);

        // Named fields may stand behind the items that name them.
        FormSheet y = Due.closed(9, "!(d=6)", "d=(c+b)", "c=(b+b)", "s=#q", "q*=(n+d)", "b=(a+a)", "n*", "a");
        Due.same("set", y.set(7, 0, 100), 5);
        Due.field(y, 1, 0, 600);
        Due.field(y, 2, 0, 400);
        Due.field(y, 3, 0, 600);
        Due.same("its check", y.fault(0, 0), 0);
        Due.same("rows", y.rows(2), 9);
        Due.field(y, 3, 0, 1200);
        Due.same("set", y.set(6, 1, 100), 2);
        Due.field(y, 3, 0, 1300);
    }

    private static void asking() {
        FormSheet x = Due.closed(9, "a", "!a", "\"x", "n*", "!*(n<a)");
        Due.same("rows", x.rows(2), 3);
        x.set(0, 0, 300);
        x.set(3, 1, 300);
        Due.same("a field", x.get(0, 0), 300);
        Due.same("a check has no value", x.get(1, 0), 0);
        Due.same("a caption has none", x.get(2, 0), 0);
        Due.same("a row", x.get(3, 1), 300);
        Due.same("a check with rows", x.get(4, 0), 0);
        Due.same("told fields have no fault", x.fault(0, 0), 0);
        Due.same("a check", x.fault(1, 0), 0);
        Due.same("a check has one row", x.fault(1, 1), FormSheet.NONE);
        Due.same("a caption has no fault", x.fault(2, 0), FormSheet.NONE);
        Due.same("check in row 0", x.fault(4, 0), 0);
        Due.same("check in row 1", x.fault(4, 1), 1);
        Due.same("check in row 2", x.fault(4, 2), FormSheet.NONE);
        x.set(0, 0, 0);
        Due.same("a check fails", x.fault(1, 0), 1);
        // Below 0 is not 0.
        x.set(0, 0, -1);
        Due.same("a check of -0.01", x.fault(1, 0), 0);
    }

    private static void messages() {
        FormSheet x = Due.closed(9, "!*n", "!a", "a", "!*(1/n)", "n*", "!1");
        Due.same("rows", x.rows(3), 4);
        x.set(4, 1, 100);
        int[] due = {0, 2, 8, 24, 26};
        Due.same("message(-1)", x.message(-1), due.length);
        for (int k = 0; k < due.length; k++) {
            Due.same("message(" + k + ")", x.message(k), due[k]);
        }
        for (int k : new int[] {-2, 5, 64, Integer.MAX_VALUE, Integer.MIN_VALUE}) {
            Due.same("message(" + k + ")", x.message(k), FormSheet.NONE);
        }
        x.set(2, 0, 100);
        Due.same("message(-1)", x.message(-1), 4);
        Due.same("message(2)", x.message(2), 24);
        Due.same("rows", x.rows(0), 1);
        Due.same("message(-1)", x.message(-1), 0);
        Due.same("message(0)", x.message(0), FormSheet.NONE);
    }
}
