/** A test for each sentence that names a boundary case: Terms, the text; promises 2 write, 3 add and 4 position. */
public final class EdgesOfTextTest {
    private static final String TEXT = "Terms, the text";
    private static final String WRITE = "Promise 2, write";
    private static final String ADD = "Promise 3, add";
    private static final String POSITION = "Promise 4, position";

    /** 60 characters; each beginning of it only lacks something. */
    private static final String FULL = "!" + "(111111.11+".repeat(5) + "(111";

    public static void main(String[] args) {
        emptyAtFirst();
        sixtyCharacters();
        codes();
        eightFromTheHighest();
        zerosLeftOut();
        nothingWritten();
        wrongCodesChangeNothing();
        tooManyChangeNothing();
        writingAtAnyTime();
        emptyBehindAnItem();
        emptyBehindNoItem();
        emptyBehindARefusedItem();
        numbersOfItems();
        noItem();
        closedForm();
        sixteenItems();
        nameTwice();
        bothHold();
        refusedItemsChangeNothing();
        noPositionAtFirst();
        noPositionBehindAnItem();
        noPositionBehindTheOtherException();
        positionOfTheLatest();
        positionStays();
        Due.end();
    }

    /** For a text that only lacks something: its error tells how long it is. */
    private static void holds(FormSheet x, int length) {
        Due.same("add of what lacks something", Due.add(x), Due.ARGUMENT);
        Due.same("its length", x.position(), length);
    }

    private static void emptyAtFirst() {
        Due.about(TEXT, "THE TEXT has [..] at first none");
        holds(new FormSheet(4), 0);
        FormSheet x = new FormSheet(4);
        Due.same("the first characters", Due.add(x, "a=1"), 0);
    }

    private static void sixtyCharacters() {
        Due.about(TEXT, "THE TEXT has at most 60 characters");
        FormSheet x = new FormSheet(4);
        for (int i = 0; i < 60; i++) {
            Due.same("character " + i, x.write(FULL.charAt(i)), true);
        }
        Due.same("a 61st", x.write('1'), false);
        Due.same("a 61st to 68th", x.write(Due.word("11111111")), false);
        holds(x, 60);
        Due.write(x, FULL.substring(0, 59));
        Due.same("a 60th and 61st", x.write(Due.word("11")), false);
        Due.same("a 60th", x.write('1'), true);
        Due.same("a 61st", x.write('1'), false);
        holds(x, 60);
    }

    private static void codes() {
        Due.about(TEXT, "characters with codes 32 .. 126");
        for (int code = 1; code < 256; code++) {
            for (int shift = 0; shift < 64; shift += 8) {
                FormSheet x = new FormSheet(4);
                Due.same("code " + code + " << " + shift, x.write((long) code << shift), code >= 32 && code <= 126);
            }
        }
    }

    private static void eightFromTheHighest() {
        Due.about(WRITE,
            "Appends up to eight characters to the text, the codes of which are the eight bytes of w from the"
            + " highest on");
        FormSheet x = new FormSheet(4);
        Due.same("write a=123456", x.write(0x613D313233343536L), true);
        Due.same("write .78", x.write(0x2E3738L), true);
        Due.same("add", Due.add(x), 0);
        Due.same("close", Due.close(x), 1);
        Due.same("get", x.get(0, 0), 12_345_678);
    }

    private static void zerosLeftOut() {
        Due.about(WRITE, "but for those that are 0: true");
        FormSheet x = new FormSheet(4);
        Due.same("a in the highest byte", x.write(0x6100000000000000L), true);
        Due.same("= and 1 between zeros", x.write(0x00003D0000310000L), true);
        Due.same("2 in the lowest byte", x.write(0x32L), true);
        Due.same("add a=12", Due.add(x), 0);
        Due.same("close", Due.close(x), 1);
        Due.same("get", x.get(0, 0), 1200);
    }

    private static void nothingWritten() {
        Due.about(WRITE, "up to eight characters [..] but for those that are 0: true", "none at all");
        FormSheet x = new FormSheet(4);
        Due.same("write(0) to the empty text", x.write(0), true);
        holds(x, 0);
        Due.write(x, FULL);
        Due.same("write(0) to the full text", x.write(0), true);
        holds(x, 60);
    }

    private static void wrongCodesChangeNothing() {
        Due.about(WRITE, "False, changing nothing, if one of the others is not 32 .. 126");
        FormSheet x = new FormSheet(4);
        Due.write(x, "!(");
        Due.same("31 as the last", x.write(0x313131313131311FL), false);
        Due.same("127 as the first", x.write(0x7F31313131313131L), false);
        Due.same("128 in the middle", x.write(0x3131318031313131L), false);
        Due.same("255 behind zeros", x.write(0x31000000000000FFL), false);
        Due.same("all 255", x.write(-1), false);
        Due.same("the least long", x.write(Long.MIN_VALUE), false);
        Due.same("the greatest long", x.write(Long.MAX_VALUE), false);
        Due.write(x, FULL.substring(2));
        Due.same("a wrong one to the full text", x.write(31), false);
        holds(x, 60);
    }

    private static void tooManyChangeNothing() {
        Due.about(WRITE, "False, changing nothing, if [..] they are more than there is room for");
        for (int room = 0; room < 8; room++) {
            FormSheet x = new FormSheet(4);
            Due.write(x, FULL.substring(0, 60 - room));
            Due.same("eight for " + room, x.write(Due.word("11111111")), false);
            Due.same("one too many for " + room, x.write(Due.word("1".repeat(room + 1))), false);
            Due.same("one too many, from the highest byte on", x.write(Due.word("1".repeat(room + 1)) << 56 - 8 * room),
                false);
            Due.same("just so many", x.write(Due.word(FULL.substring(60 - room))), true);
            holds(x, 60);
        }
        FormSheet y = new FormSheet(4);
        Due.write(y, FULL.substring(0, 57));
        Due.same("four among zeros for 3", y.write(0x0031003100310031L), false);
        holds(y, 57);
        Due.write(y, FULL.substring(0, 57));
        Due.same("three among zeros for 3", y.write(0x3100310031000000L), true);
        holds(y, 60);
    }

    private static void writingAtAnyTime() {
        Due.about(WRITE, "Appends up to eight characters to the text", "in any state of the form");
        FormSheet x = Due.closed(4, "a");
        Due.same("closed", x.write('b'), true);
        x.clear();
        Due.same("cleared", x.write('='), true);
        holds(x, 2);
        for (int i = 0; i < 16; i++) {
            Due.same("add", Due.add(x, "!1"), i);
        }
        Due.same("full", x.write('!'), true);
        holds(x, 1);
    }

    private static void emptyBehindAnItem() {
        Due.about(ADD, "Takes the text, which is empty then");
        FormSheet x = new FormSheet(4);
        Due.same("add a", Due.add(x, "a"), 0);
        holds(x, 0);
        Due.same("add b", Due.add(x, "b"), 1);
        Due.same("add c", Due.add(x, "c"), 2);
        Due.same("three names", Due.close(x), 3);
    }

    private static void emptyBehindNoItem() {
        Due.about(ADD, "which is empty then whatever comes of it", "IllegalArgumentException");
        FormSheet x = new FormSheet(4);
        Due.same("add a=", Due.add(x, "a="), Due.ARGUMENT);
        holds(x, 0);
        Due.same("add 60 that are none", Due.add(x, "?".repeat(60)), Due.ARGUMENT);
        Due.same("add b", Due.add(x, "b"), 0);
    }

    private static void emptyBehindARefusedItem() {
        Due.about(ADD, "which is empty then whatever comes of it", "IllegalStateException");
        FormSheet x = Due.open(4, "a");
        Due.same("a name twice", Due.add(x, "a"), Due.STATE);
        holds(x, 0);
        for (int i = 1; i < 16; i++) {
            Due.same("add", Due.add(x, "!1"), i);
        }
        Due.same("a 17th", Due.add(x, "b"), Due.STATE);
        holds(x, 0);
        Due.same("close", Due.close(x), 1);
        Due.same("closed", Due.add(x, "c"), Due.STATE);
        holds(x, 0);
    }

    private static void numbersOfItems() {
        Due.about(ADD, "as an item more: its number");
        FormSheet x = new FormSheet(4);
        for (int i = 0; i < 16; i++) {
            Due.same("add", Due.add(x, i % 3 == 0 ? "\"x" : i % 3 == 1 ? "!1" : (char) ('a' + i) + "*"), i);
            Due.same("count(0)", x.count(0), i + 1);
        }
        x.clear();
        Due.same("from 0 on again", Due.add(x, "a"), 0);
    }

    private static void noItem() {
        Due.about(ADD, "IllegalArgumentException if it is none");
        FormSheet x = new FormSheet(4);
        Due.same("the empty text", Due.add(x), Due.ARGUMENT);
        for (String none : new String[] {"a=", "!", "\"", "abc", "a**", "(a+b)", "1", " ", "a=1x",
            "\"" + "x".repeat(37)}) {
            Due.same("add " + none, Due.add(x, none), Due.ARGUMENT);
            Due.same("count(0)", x.count(0), 0);
        }
        Due.same("the form is open still", Due.add(x, "a"), 0);
    }

    private static void closedForm() {
        Due.about(ADD, "IllegalStateException if the form is closed");
        FormSheet x = Due.closed(4);
        for (String item : new String[] {"a", "!1", "\"x"}) {
            Due.same("add " + item, Due.add(x, item), Due.STATE);
            Due.same("count(0)", x.count(0), 0);
        }
        x.clear();
        Due.same("open again", Due.add(x, "a"), 0);
    }

    private static void sixteenItems() {
        Due.about(ADD, "IllegalStateException if the form [..] has 16");
        FormSheet x = new FormSheet(4);
        for (int i = 0; i < 16; i++) {
            Due.same("add", Due.add(x, "!1"), i);
        }
        for (String item : new String[] {"a", "!1", "\"x"}) {
            Due.same("add a 17th " + item, Due.add(x, item), Due.STATE);
            Due.same("count(0)", x.count(0), 16);
        }
        Due.same("close", Due.close(x), 0);
        Due.same("messages", x.message(-1), 0);
    }

    private static void nameTwice() {
        Due.about(ADD, "or it is a field whose name another one has");
        FormSheet x = Due.open(4, "a", "b=1", "ab*", "c*=1");
        for (String name : new String[] {"a", "b", "ab", "c"}) {
            for (String rest : new String[] {"", "*", "=2", "*=2"}) {
                Due.same("add " + name + rest, Due.add(x, name + rest), Due.STATE);
            }
        }
        // These are other names, and a check and a caption have none.
        Due.same("count(0)", x.count(0), 4);
        String[] others = {"ba", "aa", "bb", "ca", "!a", "!a", "\"a", "\"a"};
        for (int i = 0; i < others.length; i++) {
            Due.same("add " + others[i], Due.add(x, others[i]), 4 + i);
        }
        x.clear();
        Due.same("a name that was there", Due.add(x, "a"), 0);
    }

    private static void bothHold() {
        Due.about(ADD, "(The one named first, if both hold.)");
        FormSheet x = Due.open(4, "a");
        Due.same("none, with a name that is there", Due.add(x, "a="), Due.ARGUMENT);
        for (int i = 1; i < 16; i++) {
            Due.same("add", Due.add(x, "!1"), i);
        }
        Due.same("none, and 16", Due.add(x, "b="), Due.ARGUMENT);
        Due.same("position", x.position(), 2);
        Due.same("empty, and 16", Due.add(x), Due.ARGUMENT);
        Due.same("close", Due.close(x), 1);
        Due.same("none, and closed", Due.add(x, "!*"), Due.ARGUMENT);
        Due.same("position", x.position(), 2);
        Due.same("empty, and closed", Due.add(x), Due.ARGUMENT);
        Due.same("position", x.position(), 0);
    }

    private static void refusedItemsChangeNothing() {
        Due.about(ADD, "IllegalStateException", "then the items stay as they are");
        FormSheet x = Due.open(4, "a", "b=(a+1)");
        Due.same("a as a worked out one", Due.add(x, "a=5"), Due.STATE);
        Due.same("b as a told one", Due.add(x, "b*"), Due.STATE);
        Due.same("close", Due.close(x), 2);
        Due.same("set", x.set(0, 0, 300), 1);
        Due.same("closed", Due.add(x, "c"), Due.STATE);
        Due.field(x, 0, 0, 300);
        Due.field(x, 1, 0, 400);
        Due.same("rows", x.rows(2), 2);
    }

    private static void noPositionAtFirst() {
        Due.about(POSITION, "NONE otherwise", "no add yet");
        FormSheet x = new FormSheet(4);
        Due.same("position", x.position(), FormSheet.NONE);
        Due.write(x, "a=?");
        Due.same("behind a write", x.position(), FormSheet.NONE);
        Due.same("close", Due.close(x), 0);
        Due.same("close again", Due.close(x), Due.STATE);
        Due.same("behind close", x.position(), FormSheet.NONE);
    }

    private static void noPositionBehindAnItem() {
        Due.about(POSITION, "NONE otherwise", "add took an item");
        FormSheet x = new FormSheet(4);
        Due.same("add", Due.add(x, "a=?"), Due.ARGUMENT);
        Due.same("position", x.position(), 2);
        Due.same("add", Due.add(x, "a"), 0);
        Due.same("position", x.position(), FormSheet.NONE);
    }

    private static void noPositionBehindTheOtherException() {
        Due.about(POSITION, "NONE otherwise", "add threw IllegalStateException");
        FormSheet x = Due.open(4, "a");
        Due.same("add", Due.add(x, "a=?"), Due.ARGUMENT);
        Due.same("a name twice", Due.add(x, "a=1"), Due.STATE);
        Due.same("position", x.position(), FormSheet.NONE);
        Due.same("close", Due.close(x), 1);
        Due.same("add", Due.add(x, "!"), Due.ARGUMENT);
        Due.same("position", x.position(), 1);
        Due.same("closed", Due.add(x, "b"), Due.STATE);
        Due.same("position", x.position(), FormSheet.NONE);
    }

    private static void positionOfTheLatest() {
        Due.about(POSITION, "The position of the error, if add threw IllegalArgumentException latest");
        FormSheet x = new FormSheet(4);
        String[] texts = {"a=(b>c)", "", "?", "a=", "\"" + "x".repeat(37), FULL};
        int[] positions = {4, 0, 0, 2, 37, 60};
        for (int i = 0; i < texts.length; i++) {
            Due.same("add " + texts[i], Due.add(x, texts[i]), Due.ARGUMENT);
            Due.same("position", x.position(), positions[i]);
            Due.same("position again", x.position(), positions[i]);
        }
    }

    private static void positionStays() {
        Due.about(POSITION, "if add threw IllegalArgumentException latest", "calls of other methods are no adds");
        FormSheet x = Due.open(4, "b=c");
        Due.same("add", Due.add(x, "a=?"), Due.ARGUMENT);
        Due.write(x, "d");
        Due.same("close", Due.close(x), Due.ARGUMENT);
        Due.same("behind write and close", x.position(), 2);
        x.clear();
        Due.same("behind clear", x.position(), 2);
        Due.same("close", Due.close(x), 0);
        Due.same("rows", x.rows(2), 0);
        Due.same("behind close and rows", x.position(), 2);
    }
}
