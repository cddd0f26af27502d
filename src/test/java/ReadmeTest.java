import java.io.IOException;
import java.lang.reflect.InvocationTargetException;
import java.lang.reflect.Method;
import java.nio.file.Files;
import java.nio.file.Path;
import java.util.Arrays;
import java.util.regex.Matcher;
import java.util.regex.Pattern;

/** What README.md shows: the text that it tells, and each call with the answer that stands behind it. */
final class ReadmeTest {
    private static final Check CHECK = new Check("ReadmeTest");
    private static final Pattern TEXT = Pattern.compile("```text\n(.*?)```", Pattern.DOTALL);
    private static final Pattern CALL = Pattern.compile("^deposit\\.(\\w+)\\(([^)]*)\\); +// ([^:]+):", Pattern.MULTILINE);
    private static final Pattern NAMED = Pattern.compile("`(\\w+)`");

    public static void main(String[] args) throws IOException {
        String page = Files.readString(Path.of("README.md"));
        Matcher text = TEXT.matcher(page);
        CHECK.due("a text is shown", true, text.find());
        WillDeposit deposit = new WillDeposit();
        CHECK.due("its LINES", 10, tell(deposit, text.group(1)));
        Matcher call = CALL.matcher(page);
        int calls = 0;
        while (call.find()) {
            CHECK.due(call.group(), call.group(3), answer(deposit, call.group(1), call.group(2)));
            calls++;
        }
        CHECK.due("calls shown", page.split("\ndeposit\\.", -1).length - 1, calls);
        eachMethodIsListed(page.substring(page.indexOf("### The face"), page.indexOf("## Tests")));
        CHECK.end();
    }

    /** The method of README.md, as it stands there. */
    static int tell(WillDeposit deposit, String text) {
        for (int i = 0; i < text.length(); i += 20) {
            int[] five = new int[5];
            for (int k = 0; k < 20; k++) {
                int sign = i + k < text.length() ? text.charAt(i + k) : ' ';
                five[k / 4] = five[k / 4] << 8 | sign;
            }
            deposit.feed(five[0], five[1], five[2], five[3], five[4]);
        }
        return deposit.text(text.length());
    }

    private static String answer(WillDeposit deposit, String name, String numbers) {
        Object[] given = Arrays.stream(numbers.split(",")).map(String::trim).filter(number -> !number.isEmpty())
                .map(Integer::valueOf).toArray();
        try {
            return String.valueOf(method(name).invoke(deposit, given));
        } catch (InvocationTargetException e) {
            return e.getCause().getClass().getSimpleName();
        } catch (IllegalAccessException e) {
            return "not public";
        }
    }

    private static Method method(String name) {
        for (Method method : WillDeposit.class.getDeclaredMethods()) {
            if (method.getName().equals(name)) {
                return method;
            }
        }
        throw new IllegalArgumentException("README.md calls " + name + ", which isn't there");
    }

    private static void eachMethodIsListed(String list) {
        int listed = 0;
        Matcher named = NAMED.matcher(list);
        while (named.find()) {
            method(named.group(1));
            listed++;
        }
        CHECK.due("methods listed", 40, listed);
    }
}
