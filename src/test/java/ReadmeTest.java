import java.io.File;
import java.io.IOException;
import java.lang.reflect.Method;
import java.lang.reflect.Modifier;
import java.nio.charset.StandardCharsets;
import java.nio.file.Files;
import java.nio.file.Path;
import java.util.LinkedHashMap;
import java.util.Map;
import java.util.regex.Matcher;
import java.util.regex.Pattern;

/** What README.md says: its example answers as it is told there, and it names every call and every test. */
public final class ReadmeTest {
    private static final Pattern EXAMPLE = Pattern.compile("(?s)```java\n(.*?)```");
    private static final Pattern ANSWERED = Pattern.compile("(?m)^(?:int \\w+ = )?(\\w+\\.\\w+\\(.*?\\)); +// (-?\\d+)\\b");

    public static void main(String[] args) throws IOException {
        String readme = Files.readString(Path.of("README.md"), StandardCharsets.UTF_8);
        example(readme);
        calls(readme);
        tests(readme);
        Check.end();
    }

    private static void example(String readme) {
        Matcher block = EXAMPLE.matcher(readme);
        Check.holds("there is an example", block.find());
        Map<String, Integer> answers = answers();
        int told = 0;
        Matcher line = ANSWERED.matcher(block.group(1));
        while (line.find()) {
            String call = line.group(1);
            told++;
            Check.holds(call + " is looked at", answers.containsKey(call));
            Check.due(call, answers.getOrDefault(call, Integer.MIN_VALUE), Integer.parseInt(line.group(2)));
        }
        Check.due("answers of the example", told, answers.size());
    }

    /** The calls of the example, as they stand there, with what the program answers. */
    private static Map<String, Integer> answers() {
        Map<String, Integer> all = new LinkedHashMap<>();
        HaggleWash street = new HaggleWash();
        int house = street.addHouse(3, 5, 100);
        all.put("street.addHouse(3, 5, 100)", house);
        int other = street.addHouse(1, 10, 50);
        all.put("street.addHouse(1, 10, 50)", other);
        for (char c : "f10;h60;w2;d;s3".toCharArray()) {
            street.type(c);
        }
        all.put("street.readProgram(house)", street.readProgram(house));
        all.put("street.start(house)", street.start(house));
        all.put("street.pass(2)", street.pass(2));
        all.put("street.washer(house, 2)", street.washer(house, 2));
        all.put("street.heatNext(house)", street.heatNext(house));
        all.put("street.ask(house, 1)", street.ask(house, 1));
        all.put("street.haggle(other, house, 1, 12, 30)", street.haggle(other, house, 1, 12, 30));
        all.put("street.house(house, 0)", street.house(house, 0));
        all.put("street.overIn(house)", street.overIn(house));
        all.put("street.openDoor(house)", street.openDoor(house));
        all.put("street.undo()", street.undo());
        return all;
    }

    private static void calls(String readme) {
        for (Method method : HaggleWash.class.getDeclaredMethods()) {
            if (Modifier.isPublic(method.getModifiers())) {
                Check.holds("README names " + method.getName(), readme.contains("`" + method.getName() + "`"));
            }
        }
    }

    private static void tests(String readme) {
        String[] files = new File("src/test/java").list((directory, name) -> name.endsWith("Test.java"));
        Check.holds("tests are found", files != null && files.length > 0);
        for (String file : files) {
            String test = file.substring(0, file.length() - ".java".length());
            Check.holds("README names " + test, readme.contains("`" + test + "`"));
        }
    }
}
