import java.lang.reflect.Method;
import java.nio.file.Files;
import java.nio.file.Path;
import java.util.regex.Matcher;
import java.util.regex.Pattern;

/** README.md tells a town and shows calls with what each answers: so they must. */
public final class SecretDaysReadme {
    private static final Pattern TOWN = Pattern.compile("(?s)```text\n(.*?)```");
    private static final Pattern CALL = Pattern.compile("(?m)^x\\.(\\w+)\\((.*?)\\); +// (-?\\d+|true|false): ");

    private static Object argument(String text) {
        boolean truth = text.equals("true") || text.equals("false");
        return truth ? (Object) Boolean.valueOf(text) : (Object) Integer.valueOf(text);
    }

    private static Object call(SecretDays x, String name, String list) throws Exception {
        String[] texts = list.isEmpty() ? new String[0] : list.split(", ");
        Object[] arguments = new Object[texts.length];
        for (int i = 0; i < texts.length; i++) {
            arguments[i] = argument(texts[i]);
        }
        for (Method method : SecretDays.class.getMethods()) {
            if (method.getName().equals(name)) {
                return method.invoke(x, arguments);
            }
        }
        return "no such call";
    }

    public static void main(String[] args) throws Exception {
        String page = Files.readString(Path.of("README.md"));
        Matcher town = TOWN.matcher(page);
        Due.says("README.md tells a town");
        Due.due("the town is there", town.find(), true);
        SecretDays x = new SecretDays();
        Due.feedText(x, town.group(1));
        Matcher calls = CALL.matcher(page);
        int shown = 0;
        while (calls.find()) {
            shown++;
            Due.says(calls.group());
            String got = call(x, calls.group(1), calls.group(2)).toString();
            Due.due(calls.group() + "(got " + got + ")", got.equals(calls.group(3)), true);
        }
        Due.due("calls are shown", shown > 20, true);
        Due.end();
    }
}
