import java.io.IOException;
import java.lang.reflect.Method;
import java.lang.reflect.Modifier;
import java.net.URL;
import java.net.URLClassLoader;
import java.nio.file.Files;
import java.nio.file.Path;
import java.util.ArrayList;
import java.util.List;
import java.util.regex.Matcher;
import java.util.regex.Pattern;
import javax.tools.ToolProvider;

/** The calls that README.md shows, as one run, with the answers that it names for them. */
final class ReadmeTest {
  private static final Pattern BLOCK = Pattern.compile("(?s)```java\n(.*?)```");
  private static final Pattern CALL =
      Pattern.compile("((?:chest\\.|read\\().*);\\s+// (-?\\d+)(:.*)?");
  private static final String MAKING = "ElderChest chest = new ElderChest();";

  private final StringBuilder methods = new StringBuilder();
  private final List<String> calls = new ArrayList<>();
  private final List<Long> answers = new ArrayList<>();

  public static void main(String[] args) throws IOException, ReflectiveOperationException {
    ReadmeTest test = new ReadmeTest();
    Matcher blocks = BLOCK.matcher(Files.readString(Path.of("README.md")));
    while (blocks.find()) {
      test.take(blocks.group(1));
    }
    test.eachPublicCallIsShown();
    long[] got = test.compileAndRun();
    for (int i = 0; i < got.length; i++) {
      Due.due("README.md: " + test.calls.get(i), got[i], test.answers.get(i));
    }
    Due.end("ReadmeTest");
  }

  private void take(String block) {
    if (block.startsWith("static ")) {
      methods.append(block);
      return;
    }
    for (String line : block.split("\n")) {
      Matcher call = CALL.matcher(line);
      boolean named = call.matches();
      Due.due("README.md names an answer: " + line, named || line.equals(MAKING));
      if (named) {
        calls.add(call.group(1));
        answers.add(Long.valueOf(call.group(2)));
      }
    }
  }

  private void eachPublicCallIsShown() {
    for (Method method : ElderChest.class.getDeclaredMethods()) {
      if (Modifier.isPublic(method.getModifiers())) {
        String start = "chest." + method.getName() + "(";
        Due.due("README.md shows " + method.getName(),
            calls.stream().anyMatch(call -> call.startsWith(start)));
      }
    }
  }

  /** The class that makes the calls one by one and answers all their answers. */
  private String source() {
    return "public final class ReadmeRun {\n" + methods + "public static long[] run() {\n" + MAKING
        + "\nreturn new long[] {\n" + String.join(",\n", calls) + "};\n}\n}\n";
  }

  private long[] compileAndRun() throws IOException, ReflectiveOperationException {
    Path place = Files.createTempDirectory("readme");
    Path source = place.resolve("ReadmeRun.java");
    Path made = place.resolve("ReadmeRun.class");
    try {
      Files.writeString(source, source());
      int code = ToolProvider.getSystemJavaCompiler().run(null, null, null, "-nowarn", "-cp",
          System.getProperty("java.class.path"), "-d", place.toString(), source.toString());
      Due.due("what README.md shows compiles", code, 0);
      return code == 0 ? runIn(place) : new long[0];
    } finally {
      Files.deleteIfExists(source);
      Files.deleteIfExists(made);
      Files.deleteIfExists(place);
    }
  }

  private static long[] runIn(Path place) throws IOException, ReflectiveOperationException {
    try (URLClassLoader loader = new URLClassLoader(new URL[] {place.toUri().toURL()})) {
      return (long[]) loader.loadClass("ReadmeRun").getMethod("run").invoke(null);
    }
  }
}
