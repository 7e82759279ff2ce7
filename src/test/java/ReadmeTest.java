import java.lang.reflect.Method;
import java.lang.reflect.Modifier;
import java.nio.file.Files;
import java.nio.file.Path;
import java.util.regex.Matcher;
import java.util.regex.Pattern;

/** README.md names every call, and tells the answers of some, made in their order on one object. */
public final class ReadmeTest {
    private static final Pattern CALL = Pattern.compile("x\\.(\\w+)\\((.*?)\\);\\s*// (\\w+|-\\w+)\\b.*");

    public static void main(String[] args) throws Exception {
        Due due = new Due("ReadmeTest");
        String text = Files.readString(Path.of("README.md"));
        for (Method method : RingingChamber.class.getDeclaredMethods()) {
            if (Modifier.isPublic(method.getModifiers())) {
                due.is(method.getName() + " is named", text.contains("`" + method.getName() + "`"), true);
            }
        }
        Calls calls = new Calls();
        for (String line : text.split("\n")) {
            Matcher told = CALL.matcher(line);
            if (told.matches()) {
                long got = calls.call(told.group(1), arguments(told.group(2)));
                due.is(told.group(1) + "(" + told.group(2) + ")", got, number(told.group(3)));
            } else if (line.startsWith("x.")) {
                due.is("an answer is told: " + line, false, true);
            }
        }
        due.is("calls are told", calls.made() > 0, true);
        due.close();
    }

    private static long[] arguments(String list) {
        if (list.isEmpty()) {
            return new long[0];
        }
        String[] words = list.split(", ");
        long[] numbers = new long[words.length];
        for (int k = 0; k < words.length; k++) {
            numbers[k] = number(words[k]);
        }
        return numbers;
    }

    private static long number(String word) {
        switch (word) {
            case "true": return 1;
            case "false": return 0;
            default: return Long.decode(word.replace("L", ""));
        }
    }
}
