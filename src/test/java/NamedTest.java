import java.io.IOException;
import java.nio.file.Files;
import java.nio.file.Path;
import java.util.ArrayList;
import java.util.List;
import java.util.regex.Matcher;
import java.util.regex.Pattern;

/** Each promise of the document, and each section of its Terms, has tests that bear its number. */
final class NamedTest {
  private static final int PROMISES = 44;
  private static final int SECTIONS = 4;
  private static final Pattern TEST = Pattern.compile("static void ((promise|terms)[0-9]+)[A-Z]");

  public static void main(String[] args) throws IOException {
    List<String> names = new ArrayList<>();
    try (var files = Files.newDirectoryStream(Path.of("src/test/java"), "Bounds*Test.java")) {
      for (Path file : files) {
        Matcher matcher = TEST.matcher(Files.readString(file));
        while (matcher.find()) {
          names.add(matcher.group(1));
        }
      }
    }
    for (int promise = 1; promise <= PROMISES; promise++) {
      Due.due("tests of promise " + promise, names.contains("promise" + promise));
    }
    for (int section = 1; section <= SECTIONS; section++) {
      Due.due("tests of section " + section + " of Terms", names.contains("terms" + section));
    }
    Due.end("NamedTest");
  }
}
