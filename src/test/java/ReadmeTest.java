import java.io.IOException;
import java.lang.reflect.Method;
import java.lang.reflect.Modifier;
import java.net.URL;
import java.net.URLClassLoader;
import java.nio.file.DirectoryStream;
import java.nio.file.Files;
import java.nio.file.Path;
import java.util.ArrayList;
import java.util.List;
import java.util.Set;
import java.util.TreeSet;
import java.util.regex.Matcher;
import java.util.regex.Pattern;
import java.util.stream.Stream;
import javax.tools.ToolProvider;

/**
 * README.md: the calls that it shows as an example, with the answers that it tells, what it says of findings, and
 * the tests that it names. The example is compiled as it stands there, but that each answer is noted down.
 */
public final class ReadmeTest {
  private static final Pattern BLOCK = Pattern.compile("^```java\n(.*?)^```$", Pattern.DOTALL | Pattern.MULTILINE);
  private static final Pattern CALL =
      Pattern.compile("((?:(?:int|long) [a-z]+ = )?)(post\\.([a-zA-Z]+)\\([^;]*\\)); +// (-?[0-9]+): (.+)");
  private static final Pattern TEST = Pattern.compile("`([A-Za-z]+Test)`");
  private static final String[] FINDINGS = {"BEYOND", "FULL", "KIND", "NONE", "STATE", "MISSING", "SIZE"};
  private static final String NOTED = """
      public final class Shown {
        public static final java.util.List<Long> ANSWERS = new java.util.ArrayList<>();
        static int noted(int answer) {
          ANSWERS.add((long) answer);
          return answer;
        }
        static long noted(long answer) {
          ANSWERS.add(answer);
          return answer;
        }
        public static void main(String[] args) {
      """;

  private final List<String> rows = new ArrayList<>();
  private final List<Long> told = new ArrayList<>();
  private final Set<String> shown = new TreeSet<>();
  private final StringBuilder source = new StringBuilder(NOTED);

  public static void main(String[] args) throws IOException, ReflectiveOperationException {
    String readme = Files.readString(Path.of("README.md"));
    ReadmeTest test = new ReadmeTest();
    Matcher block = BLOCK.matcher(readme);
    while (block.find()) {
      block.group(1).lines().forEach(test::readRow);
    }
    test.source.append("}\n}\n");
    test.checkAnswers();
    test.checkShown();
    checkFindings(readme);
    checkTests(readme);
    Due.end();
  }

  private void readRow(String row) {
    Matcher call = CALL.matcher(row);
    if (call.matches()) {
      rows.add(row);
      told.add(Long.parseLong(call.group(4)));
      shown.add(call.group(3));
      source.append(call.group(1)).append("noted(").append(call.group(2)).append(");\n");
      checkFindingNamed(row, Long.parseLong(call.group(4)), call.group(5));
    } else {
      boolean isCall = row.startsWith("post.") || row.contains(" = post.");
      Due.isTrue("README.md tells the answer of: " + row, !isCall);
      source.append(row).append('\n');
    }
  }

  private static void checkFindingNamed(String row, long answer, String words) {
    for (int f = 0; f < FINDINGS.length; f++) {
      boolean isNamed = words.startsWith(FINDINGS[f] + ": ");
      Due.isTrue("README.md names the finding: " + row, isNamed == (answer == Due.BEYOND - f));
    }
  }

  private void checkAnswers() throws IOException, ReflectiveOperationException {
    List<?> answers = answersOf(source.toString());
    Due.is("README.md's calls answered", answers.size(), told.size());
    for (int i = 0; i < Math.min(told.size(), answers.size()); i++) {
      Due.is("README.md: " + rows.get(i), (Long) answers.get(i), told.get(i));
    }
  }

  /** Compiles the source in a folder of its own, runs it, and takes the folder away again. */
  private static List<?> answersOf(String source) throws IOException, ReflectiveOperationException {
    Path folder = Files.createTempDirectory("readme");
    try {
      Path file = Files.writeString(folder.resolve("Shown.java"), source);
      int failed = ToolProvider.getSystemJavaCompiler().run(null, null, null, "-proc:none", "-encoding", "UTF-8",
          "-cp", System.getProperty("java.class.path"), "-d", folder.toString(), file.toString());
      Due.is("README.md's example compiles", failed, 0);
      if (failed != 0) {
        return List.of();
      }
      try (URLClassLoader loader = new URLClassLoader(new URL[] {folder.toUri().toURL()})) {
        Class<?> made = loader.loadClass("Shown");
        made.getMethod("main", String[].class).invoke(null, (Object) new String[0]);
        return (List<?>) made.getField("ANSWERS").get(null);
      }
    } finally {
      try (Stream<Path> files = Files.list(folder)) {
        for (Path file : files.toList()) {
          Files.delete(file);
        }
      }
      Files.delete(folder);
    }
  }

  private void checkShown() {
    for (Method m : StonePost.class.getDeclaredMethods()) {
      if (Modifier.isPublic(m.getModifiers())) {
        Due.isTrue("README.md shows a call of " + m.getName(), shown.contains(m.getName()));
      }
    }
  }

  private static void checkFindings(String readme) {
    for (int f = 0; f < FINDINGS.length; f++) {
      Pattern row = Pattern.compile("\\| " + FINDINGS[f] + " +\\| " + (Due.BEYOND - f) + " +\\| " + f + " +\\|");
      Due.isTrue("README.md has a row " + row, readme.lines().anyMatch(row.asMatchPredicate()));
    }
  }

  private static void checkTests(String readme) throws IOException {
    Due.isTrue("README.md says how tests are run", readme.contains("```sh\nbash .ci/run\n```"));
    Due.isTrue(".ci/run can be run", Files.isExecutable(Path.of(".ci/run")));
    Set<String> named = new TreeSet<>();
    Matcher name = TEST.matcher(readme);
    while (name.find()) {
      named.add(name.group(1));
    }
    Due.isTrue("README.md names edges", readme.contains("`EdgesOf..Test`"));
    Set<String> there = new TreeSet<>();
    try (DirectoryStream<Path> tests = Files.newDirectoryStream(Path.of("src/test/java"), "*Test.java")) {
      for (Path test : tests) {
        String file = test.getFileName().toString();
        if (!file.startsWith("EdgesOf")) {
          there.add(file.substring(0, file.length() - ".java".length()));
        }
      }
    }
    Due.isTrue("README.md names the tests " + there + ": " + named, named.equals(there));
  }
}
