import java.io.File;
import java.io.IOException;
import java.lang.reflect.InvocationTargetException;
import java.lang.reflect.Method;
import java.lang.reflect.Modifier;
import java.nio.file.Files;
import java.nio.file.Path;
import java.util.ArrayList;
import java.util.List;
import java.util.Set;
import java.util.TreeSet;
import java.util.regex.Matcher;
import java.util.regex.Pattern;

/** README.md: that its example, its items, its calls and its list of tests are true of the class and of the tests. */
public final class ReadmeTest {
    private static final Pattern NEW = Pattern.compile("FormSheet sheet = new FormSheet\\((\\d+)\\);.*");
    private static final Pattern CALL = Pattern.compile("sheet\\.(\\w+)\\((.*?)\\); +// ([^:]+)(?:: (.*))?");
    private static final Pattern IN_TICKS = Pattern.compile("`([^`]+)`");
    private static final int NONE = FormSheet.NONE;

    private static List<String> readme;

    public static void main(String[] args) throws IOException, ReflectiveOperationException {
        readme = Files.readAllLines(Path.of("README.md"));
        example();
        items();
        calls();
        tests();
        Due.end();
    }

    private static void example() throws ReflectiveOperationException {
        List<String> lines = between("```java", "```");
        Matcher made = NEW.matcher(lines.get(0));
        Due.same("the example begins with a new object", made.matches(), true);
        FormSheet sheet = new FormSheet(Integer.parseInt(made.group(1)));
        Set<String> called = new TreeSet<>();
        for (String line : lines.subList(1, lines.size())) {
            Matcher call = CALL.matcher(line);
            Due.same("a call and its answer: " + line, call.matches(), true);
            Due.same(line, answer(sheet, call.group(1), call.group(2)).equals(call.group(3)), true);
            if (call.group(1).equals("write")) {
                Due.same("the text of " + line, Long.decode(number(call.group(2))), Due.word(call.group(4)));
            }
            called.add(call.group(1));
        }
        Due.same("the example has calls enough", called.size() >= 10, true);
    }

    private static String answer(FormSheet sheet, String name, String arguments) throws ReflectiveOperationException {
        String[] told = arguments.isEmpty() ? new String[0] : arguments.split(", ");
        Method method = methodNamed(name);
        Object[] values = new Object[told.length];
        for (int i = 0; i < told.length; i++) {
            boolean isInt = method.getParameterTypes()[i] == int.class;
            values[i] = isInt ? (Object) Integer.decode(told[i]) : (Object) Long.decode(number(told[i]));
        }
        try {
            return String.valueOf(method.invoke(sheet, values));
        } catch (InvocationTargetException e) {
            return "throws " + e.getCause().getClass().getSimpleName();
        }
    }

    private static String number(String literal) {
        return literal.replace("L", "");
    }

    private static Method methodNamed(String name) {
        for (Method method : FormSheet.class.getDeclaredMethods()) {
            if (method.getName().equals(name) && Modifier.isPublic(method.getModifiers())) {
                return method;
            }
        }
        throw new IllegalArgumentException(name);
    }

    private static void items() {
        List<String> rows = tableUnder("| item |");
        Due.same("kinds of items", rows.size(), 4);
        for (String row : rows) {
            String kind = row.split("\\|")[1].trim();
            List<String> texts = inTicks(row);
            for (int i = 0; i < texts.size(); i++) {
                item(kind, texts.get(i), i == 1);
            }
            Due.same("texts of a " + kind, texts.size(), kind.equals("caption") ? 1 : 2);
        }
    }

    private static void item(String kind, String text, boolean repeats) {
        FormSheet sheet = Due.open(4, "c", "d", "e*");
        boolean isField = kind.endsWith("field");
        Due.same("add " + text, Due.add(sheet, text), 3);
        Due.same("values with " + text, Due.close(sheet), isField ? 4 : 3);
        sheet.rows(2);
        Due.same(text + " is told", sheet.set(3, 0, 100) != NONE, kind.equals("told field"));
        Due.same(text + " has a fault or not", sheet.fault(3, 0) != NONE, !kind.equals("caption"));
        Due.same(text + " has rows", sheet.fault(3, 1) != NONE, repeats);
    }

    private static void calls() {
        Set<String> told = new TreeSet<>();
        for (String row : tableUnder("| call |")) {
            String call = inTicks(row).get(0);
            String[] names = call.substring(call.indexOf('(') + 1, call.indexOf(')')).split(",");
            told.add(call.substring(0, call.indexOf('(')) + " " + (names[0].isEmpty() ? 0 : names.length));
        }
        Set<String> due = new TreeSet<>();
        due.add("FormSheet 1");
        for (Method method : FormSheet.class.getDeclaredMethods()) {
            if (Modifier.isPublic(method.getModifiers())) {
                due.add(method.getName() + " " + method.getParameterCount());
            }
        }
        Due.same("the calls are " + due + ", told are " + told, told.equals(due), true);
    }

    private static void tests() {
        Set<String> told = new TreeSet<>();
        for (String row : tableUnder("| test |")) {
            told.addAll(inTicks(row.substring(0, row.indexOf('|', 1))));
        }
        Set<String> due = new TreeSet<>();
        for (String file : new File("src/test/java").list()) {
            if (file.endsWith("Test.java")) {
                due.add(file.replace(".java", ""));
            }
        }
        Due.same("the tests are " + due + ", told are " + told, told.equals(due), true);
    }

    private static List<String> between(String before, String behind) {
        int first = readme.indexOf(before) + 1;
        List<String> rest = readme.subList(first, readme.size());
        return rest.subList(0, rest.indexOf(behind));
    }

    /** The rows of a table, without its head. */
    private static List<String> tableUnder(String head) {
        List<String> rows = new ArrayList<>();
        boolean inTable = false;
        for (String line : readme) {
            inTable = line.startsWith(head) || inTable && line.startsWith("|");
            if (inTable && !line.startsWith(head) && !line.startsWith("|---")) {
                rows.add(line);
            }
        }
        return rows;
    }

    private static List<String> inTicks(String row) {
        List<String> found = new ArrayList<>();
        Matcher matcher = IN_TICKS.matcher(row);
        while (matcher.find()) {
            found.add(matcher.group(1));
        }
        return found;
    }
}
