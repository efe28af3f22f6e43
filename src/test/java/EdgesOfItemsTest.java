/** A test for each sentence that names a boundary case: Terms, items, expressions, brackets and errors. */
public final class EdgesOfItemsTest {
    private static final String ITEMS = "Terms, items";
    private static final String EXPRESSIONS = "Terms, expressions";
    private static final String BRACKETS = "Terms, brackets";
    private static final String ERRORS = "Terms, errors";

    private static final String LETTERS = "abcdefghijklmnopqrstuvwxyz";
    private static final String DIGITS = "0123456789";
    private static final String SIGNS = "+-*/<=?";
    private static final String EXPRESSION_BEGINS = LETTERS + DIGITS + "#(";

    public static void main(String[] args) {
        kindsOfItems();
        names();
        starsAndExpressionsOfFields();
        checks();
        captions();
        wholeDigits();
        decimalDigits();
        namesInExpressions();
        namesBehindHash();
        signs();
        choices();
        deepBrackets();
        bracketsSideBySide();
        errorAtTheFirstSuchPosition();
        errorBehindAnItem();
        errorAtTheLength();
        errorAtADeepBracket();
        Due.end();
    }

    private static void item(String text) {
        FormSheet x = new FormSheet(4);
        Due.same("add " + text, Due.add(x, text), 0);
        Due.same("position in " + text, x.position(), FormSheet.NONE);
    }

    private static void error(String text, int position) {
        FormSheet x = new FormSheet(4);
        Due.same("add " + text, Due.add(x, text), Due.ARGUMENT);
        Due.same("position in " + text, x.position(), position);
    }

    /** Of all the characters that a text can have, just these may come next: each other one is the error. */
    private static void goesOn(String begin, String good) {
        for (char c = 32; c <= 126; c++) {
            FormSheet x = new FormSheet(4);
            boolean refused = Due.add(x, begin + c) == Due.ARGUMENT && x.position() == begin.length();
            Due.same("an item may begin with " + begin + c, !refused, good.indexOf(c) >= 0);
        }
    }

    private static String allCharacters() {
        StringBuilder all = new StringBuilder();
        for (char c = 32; c <= 126; c++) {
            all.append(c);
        }
        return all.toString();
    }

    private static void kindsOfItems() {
        Due.about(ITEMS, "An ITEM is a FIELD: [..]; or a CHECK: [..]; or a CAPTION: ");
        error("", 0);
        goesOn("", LETTERS + "!\"");
        error("1", 0);
        error("(a+b)", 0);
        error("#a", 0);
        error("*a", 0);
        error("=1", 0);
    }

    private static void names() {
        Due.about(ITEMS, "a NAME (1 or 2 letters a .. z)");
        item("a");
        item("z");
        item("az");
        item("za");
        goesOn("a", LETTERS + "*=");
        goesOn("ab", "*=");
        error("abc", 2);
        error("zzz=1", 2);
        error("A", 0);
        error("`", 0);
        error("{", 0);
    }

    private static void starsAndExpressionsOfFields() {
        Due.about(ITEMS, "perhaps *, perhaps = and an EXPRESSION");
        item("a*");
        item("ab*");
        item("a=1");
        item("ab*=1");
        goesOn("a*", "=");
        goesOn("ab*", "=");
        goesOn("a=", EXPRESSION_BEGINS);
        goesOn("ab*=", EXPRESSION_BEGINS);
        error("a=", 2);
        error("ab*=", 4);
        error("a=1*", 3);
    }

    private static void checks() {
        Due.about(ITEMS, "or a CHECK: !, perhaps *, and an expression");
        item("!1");
        item("!*1");
        goesOn("!", EXPRESSION_BEGINS + "*");
        goesOn("!*", EXPRESSION_BEGINS);
        error("!", 1);
        error("!*", 2);
        error("!1*", 2);
    }

    private static void captions() {
        Due.about(ITEMS, "or a CAPTION: \" and 1 to 36 characters");
        error("\"", 1);
        goesOn("\"", allCharacters());
        item("\"x");
        item("\"\"");
        item("\" ");
        goesOn("\"" + "x".repeat(35), allCharacters());
        item("\"" + "x".repeat(36));
        goesOn("\"" + "x".repeat(36), "");
        error("\"" + "x".repeat(37), 37);
        error("\"" + "\"".repeat(59), 37);
    }

    private static void wholeDigits() {
        Due.about(EXPRESSIONS, "An expression is a NUMBER (1 to 6 digits");
        goesOn("a=1", DIGITS + ".");
        goesOn("a=12345", DIGITS + ".");
        goesOn("a=123456", ".");
        error("a=1234567", 8);
        error("a=0000000", 8);
        error("a=.5", 2);
        error("a=-1", 2);
        Due.worth("0", 0);
        Due.worth("9", 900);
        Due.worth("000000", 0);
        Due.worth("000007", 700);
        Due.worth("999999", 99_999_900);
    }

    private static void decimalDigits() {
        Due.about(EXPRESSIONS, "perhaps a period and 1 or 2 digits)");
        error("a=1.", 4);
        error("a=123456.", 9);
        goesOn("a=1.", DIGITS);
        goesOn("a=1.2", DIGITS);
        goesOn("a=1.23", "");
        goesOn("a=123456.78", "");
        Due.worth("0.1", 10);
        Due.worth("0.01", 1);
        Due.worth("0.10", 10);
        Due.worth("0.09", 9);
        Due.worth("0.0", 0);
        Due.worth("999999.9", 99_999_990);
        Due.worth("999999.99", 99_999_999);
    }

    private static void namesInExpressions() {
        Due.about(EXPRESSIONS, "a name;");
        item("a=b");
        item("a=bc");
        goesOn("a=b", LETTERS);
        goesOn("a=bc", "");
        goesOn("a=(b", LETTERS + SIGNS);
        goesOn("a=(bc", SIGNS);
    }

    private static void namesBehindHash() {
        Due.about(EXPRESSIONS, "# and a name");
        error("a=#", 3);
        goesOn("a=#", LETTERS);
        item("a=#b");
        goesOn("a=#b", LETTERS);
        item("a=#bc");
        goesOn("a=#bc", "");
    }

    private static void signs() {
        Due.about(EXPRESSIONS, "or in brackets an expression, one of + - * / < =, an expression");
        goesOn("a=(", EXPRESSION_BEGINS);
        goesOn("a=(1.23", SIGNS);
        goesOn("a=((b+c)", SIGNS);
        for (String sign : new String[] {"+", "-", "*", "/", "<", "="}) {
            goesOn("a=(1" + sign, EXPRESSION_BEGINS);
            goesOn("a=(1" + sign + "bc", ")");
            goesOn("a=(1" + sign + "(2" + sign + "3)", ")");
            item("a=(1" + sign + "bc)");
        }
        goesOn("a=(b+c)", "");
        error("a=()", 3);
        error("a=(b)", 4);
        error("a=b+c", 3);
        error("a=(b+c+d)", 6);
    }

    private static void choices() {
        Due.about(EXPRESSIONS, "or an expression, ?, an expression, :, an expression");
        goesOn("a=(1?", EXPRESSION_BEGINS);
        goesOn("a=(1?bc", ":");
        goesOn("a=(1?2.34", ":");
        goesOn("a=(1?bc:", EXPRESSION_BEGINS);
        goesOn("a=(1?bc:de", ")");
        item("a=(1?bc:de)");
        goesOn("a=(1?bc:de)", "");
        goesOn("a=((1?bc:de)", SIGNS);
        goesOn("a=(1?(2?3:4)", ":");
        error("a=b?c:d", 3);
        error("a=(b?c)", 6);
        error("a=(b:c)", 4);
        error("a=(b?c:d:e)", 8);
    }

    private static void deepBrackets() {
        Due.about(BRACKETS, "Brackets are at most 6 deep in one another");
        String six = "(".repeat(6) + "1+1)" + "+1)".repeat(5);
        Due.worth(six, 700);
        Due.worth("(1+".repeat(6) + "1" + ")".repeat(6), 700);
        Due.worth("(1?".repeat(6) + "9" + ":1)".repeat(6), 900);
        Due.worth("(0?1:".repeat(6) + "9" + ")".repeat(6), 900);
        item("ab*=" + six);
        item("!*" + six);
        // In each part of an operation a seventh one is too deep.
        error("a=" + "(".repeat(7) + "1+1)" + "+1)".repeat(6), 8);
        error("!" + "(1+".repeat(6) + "(1+1)" + ")".repeat(6), 19);
        error("!" + "(1?".repeat(6) + "(1+1)" + ":1)".repeat(6), 19);
        error("!" + "(0?1:".repeat(6) + "(1+1)" + ")".repeat(6), 31);
        goesOn("a=(((((", EXPRESSION_BEGINS);
        goesOn("a=((((((", LETTERS + DIGITS + "#");
    }

    private static void bracketsSideBySide() {
        Due.about(BRACKETS, "at most 6 deep in one another", "not beside one another");
        Due.worth("(((1+1)+(1+1))+((1+1)+(1+1)))", 800);
        Due.worth("((1+1)+((1+1)+((1+1)+((1+1)+((1+1)+(1+1))))))", 1200);
        Due.worth("((((((1+1)+(1+1))+(1+1))+(1+1))+(1+1))+(1+1))", 1200);
        error("a=((((((1+1)+(1+1))+(1+1))+(1+1))+(1+1))+(1+(1+(1+(1+(1+(1", 56);
    }

    private static void errorAtTheFirstSuchPosition() {
        Due.about(ERRORS,
            "A text that is no item has an ERROR at the first position that no item has that begins as the"
            + " text does up to there");
        // The later ones are errors too, but not the first.
        error("abcd", 2);
        error("A=(", 0);
        error("a=(b>c>d", 4);
        error("a*=(1.234+(", 8);
        error("!(a?b;c))", 5);
        error("!(#1+#2)", 3);
        error(" ", 0);
        error("a ", 1);
        error("a= 1", 2);
        error("a=(b +c)", 4);
    }

    private static void errorBehindAnItem() {
        Due.about(ERRORS, "at the first position that no item has that begins as the text does up to there",
            "behind a whole item");
        error("a=1 ", 3);
        error("a=(b+c))", 7);
        error("a=(b+c)+1", 7);
        error("!1!1", 2);
        error("a\"x", 1);
        error("a=1.23" + "x".repeat(54), 6);
        error("a=" + "(".repeat(6) + "1+1)" + "+1)".repeat(5) + "x".repeat(33), 27);
    }

    private static void errorAtTheLength() {
        Due.about(ERRORS, "(the length, if only something is missing;");
        error("", 0);
        error("!", 1);
        error("\"", 1);
        String whole = "ab*=((c?#de:1.25)<(0.5/(3=4)))";
        for (int length = 4; length < whole.length(); length++) {
            error(whole.substring(0, length), length);
        }
        item(whole);
        error("a=(1", 4);
        // The text is full here: what is missing would find no room.
        error("!" + "(111111.11+".repeat(5) + "(111", 60);
    }

    private static void errorAtADeepBracket() {
        Due.about(ERRORS, "a bracket that is too deep is such a position)");
        error("a=(((((((", 8);
        error("a=((((((((((", 8);
        error("!(((((((1+1)+1)+1)+1)+1)+1)+1)", 7);
        error("!*(((((((", 8);
        error("a=((((((", 8);
    }
}
