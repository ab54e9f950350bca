import java.io.IOException;
import java.nio.file.DirectoryStream;
import java.nio.file.Files;
import java.nio.file.Path;
import java.util.TreeSet;
import java.util.regex.Matcher;
import java.util.regex.Pattern;

/** Each promise of the document, and each of its terms, has edges that are tested by its name. */
public final class EdgesNamedTest {
  private static final Pattern NAME = Pattern.compile("\"(Terms [0-9]+|Promise [0-9]+): ");

  public static void main(String[] args) throws IOException {
    TreeSet<String> named = new TreeSet<>();
    try (DirectoryStream<Path> tests = Files.newDirectoryStream(Path.of("src/test/java"), "EdgesOf*Test.java")) {
      for (Path test : tests) {
        Matcher name = NAME.matcher(Files.readString(test));
        while (name.find()) {
          named.add(name.group(1));
        }
      }
    }
    for (int p = 1; p <= 49; p++) {
      Due.isTrue("a test is named by promise " + p, named.contains("Promise " + p));
    }
    for (int t = 0; t <= 3; t++) {
      Due.isTrue("a test is named by terms " + t, named.contains("Terms " + t));
    }
    Due.end();
  }
}
