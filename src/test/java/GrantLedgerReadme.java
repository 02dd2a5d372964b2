import java.io.IOException;
import java.lang.reflect.Method;
import java.lang.reflect.Modifier;
import java.nio.file.Files;
import java.nio.file.Path;
import java.util.List;
import java.util.regex.Matcher;
import java.util.regex.Pattern;
import java.util.stream.Stream;

// README.md says how to use the class: its example is played call by call, and
// the answer in each comment is compared with the one that comes.
public final class GrantLedgerReadme {
    private static final Path README = Path.of("README.md");
    private static final Path TESTS = Path.of("src/test/java");
    private static final Pattern CALL = Pattern.compile("ledger\\.(\\w+)\\((.*)\\); *// (-?\\d+)(:.*)?");

    private static int wrong = 0;

    private static void require(String what, boolean kept) {
        if (!kept) {
            wrong++;
            System.out.println(what);
        }
    }

    public static void main(String[] args) throws Exception {
        String text = Files.readString(README);
        playExample(text);
        for (Method method : GrantLedger.class.getDeclaredMethods()) {
            if (Modifier.isPublic(method.getModifiers())) {
                require("no word of the method " + method.getName(), text.contains("| `" + method.getName() + "("));
            }
        }
        for (String test : namesOfTests()) {
            require("no word of the test " + test, text.contains("- `" + test + "`"));
        }
        require("no word of how to run the tests", text.contains("\n    .ci/run\n"));
        System.out.println(wrong == 0 ? "README.md is as due" : wrong + " things in README.md are not as due");
        if (wrong != 0) {
            System.exit(1);
        }
    }

    private static void playExample(String text) throws Exception {
        List<String> lines = text.lines().toList();
        int start = lines.indexOf("```java");
        require("the example does not make an object",
            lines.get(start + 1).equals("GrantLedger ledger = new GrantLedger();"));
        GrantLedger ledger = new GrantLedger();
        int played = 0;
        for (int at = start + 2; !lines.get(at).equals("```"); at++) {
            Matcher call = CALL.matcher(lines.get(at));
            require("not a call with its answer: " + lines.get(at), call.matches());
            if (call.matches()) {
                int got = answerOf(ledger, call.group(1), call.group(2));
                require(lines.get(at) + " answered " + got, got == Integer.parseInt(call.group(3)));
                played++;
            }
        }
        require("the example plays nothing", played > 0);
    }

    private static int answerOf(GrantLedger ledger, String name, String inputs) throws Exception {
        for (Method method : GrantLedger.class.getMethods()) {
            if (method.getName().equals(name)) {
                return (int) method.invoke(ledger, valuesOf(inputs));
            }
        }
        throw new IllegalArgumentException("no method " + name);
    }

    private static Object[] valuesOf(String inputs) {
        if (inputs.isEmpty()) {
            return new Object[0];
        }
        return Stream.of(inputs.split(", ")).map(GrantLedgerReadme::valueOf).toArray();
    }

    private static Object valueOf(String input) {
        boolean yesOrNo = input.equals("true") || input.equals("false");
        return yesOrNo ? (Object) Boolean.valueOf(input) : (Object) Integer.valueOf(input);
    }

    private static List<String> namesOfTests() throws IOException {
        try (Stream<Path> files = Files.list(TESTS)) {
            return files.map(file -> file.getFileName().toString().replace(".java", "")).sorted().toList();
        }
    }
}
