/** Promises 2 write, 3 add and 4 position. */
public final class TextTest {
    public static void main(String[] args) {
        writing();
        items();
        errors();
        refusals();
        latestPosition();
        Due.end();
    }

    private static void writing() {
        FormSheet x = new FormSheet(4);
        Due.same("nothing", x.write(0), true);
        // Bytes of 0 are left out wherever they stand.
        Due.same("a b", x.write('a' << 24 | 'b'), true);
        Due.same("high byte", x.write((long) '=' << 56 | '1' << 8), true);
        Due.same("31", x.write('1' << 8 | 31), false);
        Due.same("127", x.write('1' | 127 << 16), false);
        Due.same("-1", x.write(-1), false);
        Due.same("a high byte of 200", x.write(200L << 56 | '1'), false);
        Due.same("add ab=1", Due.add(x), 0);
        Due.same("close", Due.close(x), 1);
        Due.same("get", x.get(0, 0), 100);

        FormSheet full = new FormSheet(4);
        Due.write(full, "\"" + "~ ".repeat(18) + "x".repeat(15));
        Due.same("nine for eight", full.write(Due.word("12345678")), true);
        Due.same("one more", full.write('1'), false);
        Due.same("nothing more", full.write(0), true);
        Due.same("add of 60", Due.add(full), Due.ARGUMENT);
        Due.same("position", full.position(), 37);
        Due.same("empty again", full.write(Due.word("\"1234567")), true);
        Due.same("add", Due.add(full), 0);

        FormSheet near = new FormSheet(4);
        Due.write(near, "a=" + "(".repeat(6) + "1+1)" + "+1)".repeat(5) + "x".repeat(30));
        Due.same("57 and 8", near.write(Due.word("12345678")), false);
        Due.same("57 and 4 among zeros", near.write(0x0031003100310031L), false);
        Due.same("57 and 3 among zeros", near.write(0x0031003100310000L), true);
        Due.same("60 and 1", near.write('1'), false);
        Due.same("add", Due.add(near), Due.ARGUMENT);
        Due.same("position behind the item", near.position(), 27);
    }

    private static void items() {
        String[] good = {
            "a", "zz", "a*", "ab*", "b=1", "c*=1", "d=123456.78", "e=0.5", "f=00", "g=a", "h=ab", "i=#a", "j=#ab",
            "k=(1+2)", "l=(a-#b)", "m=((a*b)/(c<d))", "n=(a=b)", "o=(a?b:c)", "p=((a?b:c)?(a?b:c):(a?b:c))",
            "q=" + "(".repeat(6) + "1+1)" + "+1)".repeat(5), "r=" + "(1+".repeat(6) + "a" + ")".repeat(6),
            "!1", "!*1", "!a", "!#a", "!*(a<b)", "\"x", "\"\"", "\" ", "\"" + "x".repeat(36), "\"a=(", "\"!"
        };
        for (String text : good) {
            FormSheet x = new FormSheet(4);
            Due.same("add " + text, Due.add(x, text), 0);
            Due.same("position", x.position(), FormSheet.NONE);
            Due.same("count(0)", x.count(0), 1);
        }
    }

    private static void errors() {
        error("", 0);
        error("A", 0);
        error("1", 0);
        error("*", 0);
        error(" a", 0);
        error("`", 0);
        error("{", 0);
        error("#a", 0);
        error("(a+b)", 0);
        error("abc", 2);
        error("a ", 1);
        error("a1", 1);
        error("a**", 2);
        error("a=*", 2);
        error("a*b", 2);
        error("a=", 2);
        error("a*=", 3);
        error("a==1", 2);
        error("!", 1);
        error("!*", 2);
        error("!**", 2);
        error("!!1", 1);
        error("!=1", 1);
        error("\"", 1);
        error("\"" + "x".repeat(37), 37);
        error("a=1234567", 8);
        error("a=123456.", 9);
        error("a=1.", 4);
        error("a=1.a", 4);
        error("a=1.234", 6);
        error("a=1.2.", 5);
        error("a=.5", 2);
        error("a=-1", 2);
        error("a=1a", 3);
        error("a=b1", 3);
        error("a=bcd", 4);
        error("a=b*", 3);
        error("a=#", 3);
        error("a=#1", 3);
        error("a=##b", 3);
        error("a=#bcd", 5);
        error("a=#(b+c)", 3);
        error("a=()", 3);
        error("a=(b)", 4);
        error("a=(b", 4);
        error("a=(b+", 5);
        error("a=(b+c", 6);
        error("a=(b+c+d)", 6);
        error("a=(b+c))", 7);
        error("a=(b+c)+1", 7);
        error("a=(b>c)", 4);
        error("a=(b?c)", 6);
        error("a=(b?c+d)", 6);
        error("a=(b?c:", 7);
        error("a=(b?c:d", 8);
        error("a=(b?c:d:e)", 8);
        error("a=(b:c)", 4);
        error("a=(b+c:d)", 6);
        error("a=b?c:d", 3);
        error("a=(b +c)", 4);
        error("a=(((((((1", 8);
        error("a=((((((1", 9);
        error("!((((((1+1)+1)+1)+1)+1)+(1", 26);
        error("!(1+(1+(1+(1+(1+(1+(1", 19);
        error("!*(t<20)*", 8);
    }

    private static void error(String text, int position) {
        FormSheet x = Due.open(4, "a");
        Due.same("add " + text, Due.add(x, text), Due.ARGUMENT);
        Due.same("position in " + text, x.position(), position);
        Due.same("count(0)", x.count(0), 1);
        Due.same("the text is empty", Due.add(x), Due.ARGUMENT);
        Due.same("position in the empty one", x.position(), 0);
    }

    private static void refusals() {
        FormSheet x = Due.open(4, "a", "b=1", "ab");
        Due.same("a told name again", Due.add(x, "a*=2"), Due.STATE);
        Due.same("a worked out name again", Due.add(x, "b"), Due.STATE);
        Due.same("two letters again", Due.add(x, "ab*"), Due.STATE);
        Due.same("count(0)", x.count(0), 3);
        Due.same("the letters swapped", Due.add(x, "ba"), 3);
        Due.same("the text is empty behind it", Due.add(x, "c"), 4);
        Due.same("no item with a known name", Due.add(x, "a="), Due.ARGUMENT);
        for (int i = 5; i < 16; i++) {
            Due.same("check " + i, Due.add(x, "!1"), i);
        }
        Due.same("a 17th", Due.add(x, "\"x"), Due.STATE);
        Due.same("count(0)", x.count(0), 16);
        Due.same("a 17th that is none", Due.add(x, "\""), Due.ARGUMENT);
        Due.same("close", Due.close(x), 5);
        Due.same("a 17th, closed", Due.add(x, "x"), Due.STATE);

        FormSheet y = Due.closed(4, "a");
        Due.same("closed", Due.add(y, "b"), Due.STATE);
        Due.same("closed and none", Due.add(y, "b="), Due.ARGUMENT);
        Due.same("position", y.position(), 2);
        Due.same("closed and empty", Due.add(y), Due.ARGUMENT);
        Due.same("count(0)", y.count(0), 1);
    }

    private static void latestPosition() {
        FormSheet x = new FormSheet(4);
        Due.same("at first", x.position(), FormSheet.NONE);
        Due.same("add", Due.add(x, "a=?"), Due.ARGUMENT);
        Due.same("position", x.position(), 2);
        Due.same("asked again", x.position(), 2);
        Due.same("add", Due.add(x, "a"), 0);
        Due.same("behind an item", x.position(), FormSheet.NONE);
        Due.same("add", Due.add(x, "a=?"), Due.ARGUMENT);
        Due.same("add", Due.add(x, "a"), Due.STATE);
        Due.same("behind another exception", x.position(), FormSheet.NONE);
        Due.same("add", Due.add(x, "b*?"), Due.ARGUMENT);
        Due.write(x, "b=c");
        Due.same("behind a write", x.position(), 2);
        Due.same("add", Due.add(x), 1);
        Due.same("add", Due.add(x, "!1?"), Due.ARGUMENT);
        Due.same("close", Due.close(x), Due.ARGUMENT);
        Due.same("close's exception is not add's", x.position(), 2);
        x.clear();
        Due.same("clear is no add", x.position(), 2);
    }
}
