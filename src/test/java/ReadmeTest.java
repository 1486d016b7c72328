import java.io.IOException;
import java.lang.reflect.Method;
import java.nio.charset.StandardCharsets;
import java.nio.file.Files;
import java.nio.file.Path;
import java.util.regex.Matcher;
import java.util.regex.Pattern;

/** The example of README.md: each of its calls is asked, and answers what is written behind it. */
public final class ReadmeTest {
    private static final Pattern PUT = Pattern.compile("put\\(x, \"([^\"]*)\"\\);");
    private static final Pattern ASKED = Pattern.compile("x\\.(\\w+)\\(([^)]*)\\);\\s*// (BAD|NO|FULL|NONE|-?\\d+)\\b.*");

    private static int asked = 0;
    private static int wrong = 0;

    public static void main(String[] args) throws ReflectiveOperationException, IOException {
        WalkingLaw x = null;
        for (String line : Files.readAllLines(Path.of("README.md"), StandardCharsets.UTF_8)) {
            if (line.equals("WalkingLaw x = new WalkingLaw();")) {
                x = new WalkingLaw();
            } else if (x != null && line.startsWith("```")) {
                break;
            } else if (x != null) {
                follow(x, line);
            }
        }
        if (asked < 27) {
            wrong++;
            System.out.println("README.md has an example of " + asked + " calls");
        }
        System.out.println("ReadmeTest: " + asked + " calls asked, " + wrong + " wrong");
        if (wrong != 0) {
            System.exit(1);
        }
    }

    private static void follow(WalkingLaw x, String line) throws ReflectiveOperationException {
        Matcher put = PUT.matcher(line);
        Matcher call = ASKED.matcher(line);
        if (put.matches()) {
            for (char c : put.group(1).toCharArray()) {
                x.write(1, c);
            }
        } else if (call.matches()) {
            int got = ask(x, call.group(1), call.group(2));
            if (got != written(call.group(3))) {
                wrong++;
                System.out.println("answered " + got + ": " + line);
            }
        } else {
            wrong++;
            System.out.println("not understood: " + line);
        }
    }

    private static int ask(WalkingLaw x, String name, String numbers) throws ReflectiveOperationException {
        asked++;
        String[] told = numbers.isEmpty() ? new String[0] : numbers.split(", ");
        Class<?>[] types = new Class<?>[told.length];
        Object[] values = new Object[told.length];
        for (int k = 0; k < told.length; k++) {
            types[k] = int.class;
            values[k] = Integer.valueOf(told[k]);
        }
        Method call = WalkingLaw.class.getMethod(name, types);
        return (Integer) call.invoke(x, values);
    }

    private static int written(String answer) throws ReflectiveOperationException {
        boolean named = Character.isLetter(answer.charAt(0));
        return named ? WalkingLaw.class.getField(answer).getInt(null) : Integer.parseInt(answer);
    }
}
