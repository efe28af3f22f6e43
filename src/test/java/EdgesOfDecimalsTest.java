/** A test for each sentence that names a boundary case: Terms, decimals. */
public final class EdgesOfDecimalsTest {
    private static final String DECIMALS = "Terms, decimals";
    private static final long LIMIT = 1_000_000_000_000_000L;

    public static void main(String[] args) {
        limitsOfToldOnes();
        limitsOfWorkedOutOnes();
        halfProducts();
        halfQuotients();
        beyondBySum();
        beyondByProduct();
        productsThatWrapAround();
        beyondByQuotient();
        quotientsByZero();
        Due.end();
    }

    private static void limitsOfToldOnes() {
        Due.about(DECIMALS, "-LIMIT .. LIMIT, LIMIT being 10 to the 15th");
        FormSheet x = Due.closed(4, "a");
        for (long inside : new long[] {LIMIT, -LIMIT, LIMIT - 1, 1 - LIMIT, 1, -1, 0}) {
            Due.same("set(0, 0, " + inside + ")", x.set(0, 0, inside), 0);
            Due.field(x, 0, 0, inside);
        }
        long[] outside = {LIMIT + 1, -LIMIT - 1, 2 * LIMIT, Long.MAX_VALUE, Long.MIN_VALUE, Long.MIN_VALUE + 1};
        for (long value : outside) {
            Due.same("set(0, 0, " + value + ")", x.set(0, 0, value), FormSheet.NONE);
            Due.field(x, 0, 0, 0);
        }
    }

    private static void limitsOfWorkedOutOnes() {
        Due.about(DECIMALS, "-LIMIT .. LIMIT", "worked out");
        Due.worth("a", LIMIT, LIMIT);
        Due.worth("a", -LIMIT, -LIMIT);
        Due.worth("(a+b)", LIMIT, LIMIT - 1, 1);
        Due.worth("(a-b)", -LIMIT, 1 - LIMIT, 1);
        Due.worth("(0-a)", -LIMIT, LIMIT);
        Due.worth("(0-a)", LIMIT, -LIMIT);
        Due.worth("(a*1)", LIMIT, LIMIT);
        Due.worth("(a*1)", -LIMIT, -LIMIT);
        Due.worth("(a*b)", -LIMIT, LIMIT, -100);
        Due.worth("(a/1)", LIMIT, LIMIT);
        Due.worth("(a/0.01)", -LIMIT, -LIMIT / 100);
        Due.worth("(1/a)", 0, LIMIT);
        Due.worth("(a/a)", 100, LIMIT);
        Due.worth("(a/b)", -100, LIMIT, -LIMIT);
    }

    private static void halfProducts() {
        Due.about(DECIMALS, "A product is the two multiplied and divided by 100, [..] rounded to the nearest, a half to"
            + " the even one");
        long[][] sizes = {{1, 49, 0}, {1, 50, 0}, {1, 51, 1}, {3, 49, 1}, {3, 50, 2}, {3, 51, 2}, {5, 49, 2},
            {5, 50, 2}, {5, 51, 3}, {7, 50, 4}, {9, 50, 4}, {11, 50, 6}, {1, 99, 1}, {1, 1, 0}, {0, 50, 0},
            {100, 100, 100}, {100, 1, 1}, {109, 917_431_192_660_550L, LIMIT}, {142, 704_225_352_112_675L, LIMIT - 2},
            {1171, 85_397_096_498_719L, LIMIT - 1}};
        for (long[] size : sizes) {
            Due.worth("(a*b)", size[2], size[0], size[1]);
            Due.worth("(a*b)", size[2], size[1], size[0]);
            Due.worth("(a*b)", size[2], -size[0], -size[1]);
            Due.worth("(a*b)", -size[2], -size[0], size[1]);
            Due.worth("(a*b)", -size[2], size[0], -size[1]);
        }
    }

    private static void halfQuotients() {
        Due.about(DECIMALS, "a quotient 100 times the first divided by the second, both rounded to the nearest, a half"
            + " to the even one");
        long[][] sizes = {{1, 200, 0}, {1, 201, 0}, {1, 199, 1}, {3, 200, 2}, {5, 200, 2}, {7, 200, 4}, {9, 200, 4},
            {1, 8, 12}, {3, 8, 38}, {100, 300, 33}, {200, 300, 67}, {1, 3, 33}, {1, 1, 100}, {0, 1, 0}, {0, 200, 0},
            {LIMIT - 1, 200, 500_000_000_000_000L}, {LIMIT - 3, 200, 499_999_999_999_998L},
            {LIMIT / 2, LIMIT, 50}, {LIMIT / 200, LIMIT, 0}, {LIMIT / 200 + 1, LIMIT, 1}, {3 * LIMIT / 200, LIMIT, 2}};
        for (long[] size : sizes) {
            Due.worth("(a/b)", size[2], size[0], size[1]);
            Due.worth("(a/b)", size[2], -size[0], -size[1]);
            Due.worth("(a/b)", -size[2], -size[0], size[1]);
            Due.worth("(a/b)", -size[2], size[0], -size[1]);
        }
    }

    private static void beyondBySum() {
        Due.about(DECIMALS, "What would be beyond the limits is FAULT 1");
        Due.worth("(a+b)", Due.FAULT_1, LIMIT, 1);
        Due.worth("(a+b)", Due.FAULT_1, -LIMIT, -1);
        Due.worth("(a+a)", Due.FAULT_1, LIMIT);
        Due.worth("(a-b)", Due.FAULT_1, -LIMIT, 1);
        Due.worth("(a-b)", Due.FAULT_1, LIMIT, -1);
        Due.worth("(a-b)", Due.FAULT_1, LIMIT, -LIMIT);
        // What comes back within the limits has been beyond them.
        Due.worth("((a+0.01)-1)", Due.FAULT_1, LIMIT);
        Due.worth("((a+a)*0)", Due.FAULT_1, LIMIT);
    }

    private static void beyondByProduct() {
        Due.about(DECIMALS, "What would be beyond the limits is FAULT 1", "a product, once it is rounded");
        Due.worth("(a*b)", Due.FAULT_1, LIMIT, 101);
        Due.worth("(a*b)", Due.FAULT_1, -LIMIT, 101);
        Due.worth("(a*b)", Due.FAULT_1, LIMIT, -101);
        Due.worth("(a*b)", Due.FAULT_1, -101, -LIMIT);
        // Half a hundredth above LIMIT goes down to LIMIT, which is even; a little more does not.
        Due.worth("(a*b)", LIMIT, 150, 666_666_666_666_667L);
        Due.worth("(a*b)", -LIMIT, 787_401_574_803_150L, -127);
        Due.worth("(a*b)", Due.FAULT_1, 193, 518_134_715_025_907L);
        Due.worth("(a*b)", Due.FAULT_1, -74_019_245_003_701L, 1351);
    }

    private static void productsThatWrapAround() {
        Due.about(DECIMALS, "What would be beyond the limits is FAULT 1", "a product that no long holds");
        Due.worth("(a*b)", Due.FAULT_1, LIMIT, LIMIT);
        Due.worth("(a*b)", Due.FAULT_1, -LIMIT, LIMIT);
        Due.worth("(a*b)", Due.FAULT_1, -LIMIT, -LIMIT);
        // In a long these come out as 0, as the least one, as 1 and as -1.
        Due.worth("(a*b)", Due.FAULT_1, 1L << 32, 1L << 32);
        Due.worth("(a*b)", Due.FAULT_1, 1L << 31, 1L << 32);
        Due.worth("(a*b)", Due.FAULT_1, 274_177L, 67_280_421_310_721L);
        Due.worth("(a*b)", Due.FAULT_1, 4_294_967_297L, 4_294_967_295L);
    }

    private static void beyondByQuotient() {
        Due.about(DECIMALS, "What would be beyond the limits is FAULT 1", "a quotient");
        Due.worth("(a/b)", LIMIT, LIMIT, 100);
        Due.worth("(a/b)", Due.FAULT_1, LIMIT, 99);
        Due.worth("(a/b)", Due.FAULT_1, -LIMIT, 99);
        Due.worth("(a/b)", Due.FAULT_1, LIMIT, -99);
        Due.worth("(a/b)", Due.FAULT_1, LIMIT, 1);
        Due.worth("(a/b)", LIMIT, LIMIT / 100, 1);
        Due.worth("(a/b)", Due.FAULT_1, LIMIT / 100 + 1, 1);
        Due.worth("(a/b)", Due.FAULT_1, LIMIT / 100 + 1, -1);
    }

    private static void quotientsByZero() {
        Due.about(DECIMALS, "a quotient by 0 FAULT 2");
        Due.worth("(1/0)", Due.FAULT_2);
        Due.worth("(1/0.00)", Due.FAULT_2);
        Due.worth("(0/0)", Due.FAULT_2);
        Due.worth("(a/b)", Due.FAULT_2, LIMIT, 0);
        Due.worth("(a/b)", Due.FAULT_2, -LIMIT, 0);
        Due.worth("(1/(a-a))", Due.FAULT_2, 700);
        // Rounded to 0.
        Due.worth("(1/(0.01*0.5))", Due.FAULT_2);
        Due.worth("(0/0.01)", 0);
        Due.worth("(0.01/0.01)", 100);
    }
}
