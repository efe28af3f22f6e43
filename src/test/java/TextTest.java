/** Promises 3 add and 4 position: texts that are items, and texts that are none. */
public final class TextTest {
    public static void main(String[] args) {
        items();
        errors();
        Due.end();
    }

    private static void items() {
        String[] good = {
            "a", "zz", "a*", "ab*", "b=1", "c*=1", "d=123456.78", "e=0.5", "f=00", "g=a", "h=ab", "i=#a", "j=#ab",
            "k=(1+2)", "l=(a-#b)", "m=((a*b)/(c<d))", "n=(a=b)", "o=(a?b:c)", "p=((a?b:c)?(a?b:c):(a?b:c))",
            "q=" + "(".repeat(6) + "1+1)" + "+1)".repeat(5), "r=" + "(1+".repeat(6) + "a" + ")".repeat(6),
            "!1", "!*1", "!a", "!#a", "!*(a<b)", "\"x", "\"\"", "\" ", "\"" + "x".repeat(36), "\"a=(", "\"!"
        };
        for (String text : good) {
            FormSheet x = new FormSheet(4);
            Due.same("add " + text, Due.add(x, text), 0);
            Due.same("position", x.position(), FormSheet.NONE);
            Due.same("count(0)", x.count(0), 1);
        }
    }

    private static void errors() {
        error("", 0);
        error("A", 0);
        error("1", 0);
        error("*", 0);
        error(" a", 0);
        error("`", 0);
        error("{", 0);
        error("#a", 0);
        error("(a+b)", 0);
        error("abc", 2);
        error("a ", 1);
        error("a1", 1);
        error("a**", 2);
        error("a=*", 2);
        error("a*b", 2);
        error("a=", 2);
        error("a*=", 3);
        error("a==1", 2);
        error("!", 1);
        error("!*", 2);
        error("!**", 2);
        error("!!1", 1);
        error("!=1", 1);
        error("\"", 1);
        error("\"" + "x".repeat(37), 37);
        error("a=1234567", 8);
        error("a=123456.", 9);
        error("a=1.", 4);
        error("a=1.a", 4);
        error("a=1.234", 6);
        error("a=1.2.", 5);
        error("a=.5", 2);
        error("a=-1", 2);
        error("a=1a", 3);
        error("a=b1", 3);
        error("a=bcd", 4);
        error("a=b*", 3);
        error("a=#", 3);
        error("a=#1", 3);
        error("a=##b", 3);
        error("a=#bcd", 5);
        error("a=#(b+c)", 3);
        error("a=()", 3);
        error("a=(b)", 4);
        error("a=(b", 4);
        error("a=(b+", 5);
        error("a=(b+c", 6);
        error("a=(b+c+d)", 6);
        error("a=(b+c))", 7);
        error("a=(b+c)+1", 7);
        error("a=(b>c)", 4);
        error("a=(b?c)", 6);
        error("a=(b?c+d)", 6);
        error("a=(b?c:", 7);
        error("a=(b?c:d", 8);
        error("a=(b?c:d:e)", 8);
        error("a=(b:c)", 4);
        error("a=(b+c:d)", 6);
        error("a=b?c:d", 3);
        error("a=(b +c)", 4);
        error("a=(((((((1", 8);
        error("a=((((((1", 9);
        error("!((((((1+1)+1)+1)+1)+1)+(1", 26);
        error("!(1+(1+(1+(1+(1+(1+(1", 19);
        error("!*(t<20)*", 8);
    }

    private static void error(String text, int position) {
        FormSheet x = Due.open(4, "a");
        Due.same("add " + text, Due.add(x, text), Due.ARGUMENT);
        Due.same("position in " + text, x.position(), position);
        Due.same("count(0)", x.count(0), 1);
        Due.same("the text is empty", Due.add(x), Due.ARGUMENT);
        Due.same("position in the empty one", x.position(), 0);
    }
}
