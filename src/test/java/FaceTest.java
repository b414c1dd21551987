import java.io.IOException;
import java.lang.reflect.Constructor;
import java.lang.reflect.Field;
import java.lang.reflect.Method;
import java.lang.reflect.Modifier;
import java.nio.file.Files;
import java.nio.file.Path;
import java.util.Arrays;
import java.util.Set;
import java.util.TreeSet;
import java.util.regex.Matcher;
import java.util.regex.Pattern;
import java.util.stream.Collectors;

/** The public face of the document, and the rules of LANGUAGE.md that can be seen from here. */
final class FaceTest {
  private static final String[] FACE = {"int elder(int)", "int of(int,int)", "int gone(int,boolean)",
      "int feed(int,int)", "int wipe()", "int text()", "int use(int)", "int may(int,int)",
      "int more()", "int least(int)", "int most(int)", "int lock(int,boolean)",
      "int chain(int,int,boolean)", "int box(int,int)", "int hanging(int,int)", "int as(int,int)",
      "int key(int,int,boolean)", "int lend(int,int,int)", "int opens(int,int)", "int had(int)",
      "int round(int,int)", "int lets(int,int)", "int shut(int,int)", "int wrongly(int)",
      "int lacks(int)", "int same(int,int)", "int bears(int,int)", "int need(int,int)",
      "int could(int)", "int build()", "int fewest()", "int spare(int,int,int)", "int thin(int)",
      "int heavy(int)", "int judge(int,int)", "int sheet(int,int,int)",
      "long write(int,int,long)", "int copy(int,int,int,int,int)", "int image()", "int undo()",
      "int tear()", "int look(int)", "int status(int)"};

  public static void main(String[] args) throws IOException {
    faceIsThatOfTheDocument();
    classesInside();
    String source = Files.readString(Path.of("src/main/java/ElderChest.java"));
    wordsThatRulesForbid(source);
    methodsAreShort(source);
    Due.end("FaceTest");
  }

  private static String told(Method method) {
    String types = Arrays.stream(method.getParameterTypes()).map(Class::getName)
        .collect(Collectors.joining(","));
    return method.getReturnType().getName() + " " + method.getName() + "(" + types + ")";
  }

  private static void faceIsThatOfTheDocument() {
    Class<?> chest = ElderChest.class;
    Due.due("public and final", Modifier.isPublic(chest.getModifiers())
        && Modifier.isFinal(chest.getModifiers()));
    Set<String> open = new TreeSet<>();
    for (Method method : chest.getDeclaredMethods()) {
      if (!Modifier.isPrivate(method.getModifiers())) {
        open.add(told(method));
        Due.due("public and no more: " + method, method.getModifiers(), Modifier.PUBLIC);
      }
    }
    Due.due("the methods are " + open, open.equals(new TreeSet<>(Arrays.asList(FACE))));
    for (Field field : chest.getDeclaredFields()) {
      Due.due("a private field: " + field, Modifier.isPrivate(field.getModifiers()));
    }
    Constructor<?>[] constructors = chest.getDeclaredConstructors();
    Due.due("one constructor", constructors.length, 1);
    Due.due("it is public", Modifier.isPublic(constructors[0].getModifiers()));
    Due.due("it takes nothing", constructors[0].getParameterCount(), 0);
  }

  private static void classesInside() {
    Set<String> face = Arrays.stream(FACE).map(m -> m.replaceAll(".* |\\(.*", ""))
        .collect(Collectors.toSet());
    Class<?>[] inside = ElderChest.class.getDeclaredClasses();
    Due.due("at most twelve classes, with the class itself", inside.length < 12);
    for (Class<?> one : inside) {
      int modifiers = one.getModifiers();
      Due.due("static: " + one, Modifier.isStatic(modifiers));
      Due.due("not public: " + one, !Modifier.isPublic(modifiers)
          && !Modifier.isProtected(modifiers));
      for (Method method : one.getDeclaredMethods()) {
        Due.due("a name of its own: " + method, !face.contains(method.getName()));
      }
      long fields = Arrays.stream(one.getDeclaredFields())
          .filter(f -> !Modifier.isStatic(f.getModifiers())).count();
      Due.due("at most twenty fields: " + one, fields <= 20);
      statics(one);
    }
    for (Method method : ElderChest.class.getDeclaredMethods()) {
      if (Modifier.isPrivate(method.getModifiers())) {
        Due.due("a name of its own: " + method, !face.contains(method.getName()));
      }
      Due.due("at most seven parameters: " + method, method.getParameterCount() <= 7);
    }
    statics(ElderChest.class);
  }

  private static void statics(Class<?> one) {
    for (Field field : one.getDeclaredFields()) {
      if (Modifier.isStatic(field.getModifiers())) {
        Due.due("a constant: " + field, Modifier.isFinal(field.getModifiers())
            && field.getType().isPrimitive());
      }
    }
  }

  private static void wordsThatRulesForbid(String source) {
    String code = source.replaceAll("(?s)/\\*.*?\\*/|//[^\n]*", "");
    String[] words = {"throw", "throws", "try", "catch", "synchronized", "assert", "package",
        "Object", "Random", "Thread", "toString", "hashCode", "Exact", "lambda", "native",
        "volatile", "protected"};
    for (String word : words) {
      Due.due("no " + word, !Pattern.compile("\\b" + word + "\\b").matcher(code).find());
    }
    Due.due("no lambda, no method reference", !code.contains("->") && !code.contains("::"));
    Set<String> imports = new TreeSet<>();
    Matcher matcher = Pattern.compile("import ([^;]+);").matcher(code);
    while (matcher.find()) {
      imports.add(matcher.group(1));
    }
    Due.due("imports " + imports, Set.of("java.util.Arrays", "java.util.List",
        "java.util.ArrayList").containsAll(imports));
    Due.due("plain signs alone", source.chars().allMatch(c -> c == '\n' || c >= 32 && c < 127));
  }

  private static void methodsAreShort(String source) {
    String[] lines = source.split("\n");
    int start = -1;
    String indent = "";
    for (int i = 0; i < lines.length; i++) {
      Matcher head = Pattern.compile("^( {2}| {4})\\S.*\\) \\{$").matcher(lines[i]);
      if (head.find() && start < 0) {
        start = i;
        indent = head.group(1);
      } else if (start >= 0 && lines[i].equals(indent + "}")) {
        Due.due("at most 60 lines: " + lines[start].trim(), i - start < 60);
        start = -1;
      }
    }
  }
}
