import java.io.IOException;
import java.lang.reflect.Method;
import java.lang.reflect.Modifier;
import java.nio.file.DirectoryStream;
import java.nio.file.Files;
import java.nio.file.Path;
import java.util.ArrayList;
import java.util.Arrays;
import java.util.List;
import java.util.Set;
import java.util.TreeSet;
import java.util.regex.Matcher;
import java.util.regex.Pattern;

// README.md says of the class what the document says of it, and what the class does.
// It is run where README.md stands, as .ci/run does.
public final class ReadmeTest {
    private static final Pattern CALL = Pattern.compile("forest\\.(\\w+)\\(([-0-9, ]+)\\);\\s*// (-?\\d+)(?:: .*)?");
    private static final Pattern ROW = Pattern.compile("\\| `int (\\w+)(\\([^)]*\\))` \\| (.*) \\|");

    private static int wrong = 0;

    private static void tell(String what) {
        wrong++;
        System.out.println("README.md: " + what);
    }

    private static String onOneLine(String text) {
        return text.replaceAll("\\s+", " ").trim();
    }

    private static Set<String> publicMethods() {
        Set<String> names = new TreeSet<>();
        for (Method method : LinkForest.class.getDeclaredMethods()) {
            if (Modifier.isPublic(method.getModifiers())) {
                names.add(method.getName());
            }
        }
        return names;
    }

    private static int answer(LinkForest forest, String name, int[] numbers) throws ReflectiveOperationException {
        Class<?>[] types = new Class<?>[numbers.length];
        Arrays.fill(types, int.class);
        Object[] arguments = Arrays.stream(numbers).boxed().toArray();
        return (int) LinkForest.class.getMethod(name, types).invoke(forest, arguments);
    }

    private static List<String> exampleLines(List<String> readme) {
        int from = readme.indexOf("```java") + 1;
        int to = from + readme.subList(from, readme.size()).indexOf("```");
        return new ArrayList<>(readme.subList(from, to));
    }

    private static void exampleAnswersWhatItSays(List<String> readme) throws ReflectiveOperationException {
        List<String> lines = exampleLines(readme);
        if (!lines.remove(0).equals("LinkForest forest = new LinkForest();")) {
            tell("the example does not begin with a new object");
        }
        LinkForest forest = new LinkForest();
        Set<String> called = new TreeSet<>();
        for (String line : lines) {
            Matcher call = CALL.matcher(line);
            if (call.matches()) {
                int[] numbers = Arrays.stream(call.group(2).split(", ")).mapToInt(Integer::parseInt).toArray();
                int got = answer(forest, call.group(1), numbers);
                if (got != Integer.parseInt(call.group(3))) {
                    tell("the answer is " + got + " here: " + line);
                }
                called.add(call.group(1));
            } else if (!line.isBlank()) {
                tell("this line of the example is no call with its answer: " + line);
            }
        }
        if (!called.equals(publicMethods())) {
            tell("the example calls " + called + ", the public methods are " + publicMethods());
        }
    }

    private static void tableIsTheDocuments(List<String> readme, String document) {
        Set<String> told = new TreeSet<>();
        for (String line : readme) {
            Matcher row = ROW.matcher(line);
            if (row.matches()) {
                String heading = ": " + row.group(1) + " ";
                String promise = "`int " + row.group(1) + row.group(2) + "`: " + row.group(3);
                // If the next heading does not follow, the row has left words of the promise out.
                if (!document.contains(heading + promise + " ## ")) {
                    tell("the document does not have this for a whole promise: " + promise);
                }
                told.add(row.group(1));
            }
        }
        if (!told.equals(publicMethods())) {
            tell("the table tells of " + told + ", the public methods are " + publicMethods());
        }
    }

    private static void quotationsStandInTheDocument(List<String> readme, String document) {
        List<String> quotations = new ArrayList<>();
        StringBuilder quotation = new StringBuilder();
        for (String line : readme) {
            if (line.startsWith("> ")) {
                quotation.append(line.substring(1));
            } else if (quotation.length() > 0) {
                quotations.add(onOneLine(quotation.toString()));
                quotation.setLength(0);
            }
        }
        for (String words : quotations) {
            if (!document.contains(words)) {
                tell("the document does not say: " + words);
            }
        }
        String terms = document.replaceAll(".*## Terms (.*) ## Promise 1: .*", "$1");
        if (!String.join(" ", quotations).contains(terms)) {
            tell("the Terms of the document are not all quoted");
        }
    }

    // A root is the root of a tree; "the root of 1", said for the parent of 1, once stood here.
    private static void rootsAreOfTrees(List<String> readme) {
        for (String line : readme) {
            if (line.matches(".*\\broot of \\d.*")) {
                tell("a root is said of a node, not of a tree: " + line);
            }
        }
    }

    private static void testsAreTold(List<String> readme) throws IOException {
        if (!readme.contains("    .ci/run")) {
            tell("it does not tell how the tests are run");
        }
        try (DirectoryStream<Path> tests = Files.newDirectoryStream(Path.of("src/test/java"), "*.java")) {
            for (Path test : tests) {
                String name = test.getFileName().toString().replace(".java", "");
                if (readme.stream().noneMatch(line -> line.startsWith("- `" + name + "`: "))) {
                    tell("it does not tell of " + name);
                }
            }
        }
    }

    public static void main(String[] args) throws IOException, ReflectiveOperationException {
        List<String> readme = Files.readAllLines(Path.of("README.md"));
        String document = onOneLine(Files.readString(Path.of("../shared/DOC.md")));
        exampleAnswersWhatItSays(readme);
        tableIsTheDocuments(readme, document);
        quotationsStandInTheDocument(readme, document);
        rootsAreOfTrees(readme);
        testsAreTold(readme);
        System.out.println(wrong == 0 ? "README.md is as due" : wrong + " things are not as due");
        if (wrong != 0) {
            System.exit(1);
        }
    }
}
