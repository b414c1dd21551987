import com.sun.source.tree.ClassTree;
import com.sun.source.tree.CompilationUnitTree;
import com.sun.source.tree.ForLoopTree;
import com.sun.source.tree.LambdaExpressionTree;
import com.sun.source.tree.MemberReferenceTree;
import com.sun.source.tree.MethodInvocationTree;
import com.sun.source.tree.MethodTree;
import com.sun.source.tree.NewArrayTree;
import com.sun.source.tree.NewClassTree;
import com.sun.source.tree.Tree;
import com.sun.source.tree.TypeCastTree;
import com.sun.source.tree.VariableTree;
import com.sun.source.tree.WhileLoopTree;
import com.sun.source.util.JavacTask;
import com.sun.source.util.TreePath;
import com.sun.source.util.TreePathScanner;
import com.sun.source.util.Trees;
import java.io.File;
import java.io.IOException;
import java.util.ArrayList;
import java.util.List;
import java.util.Map;
import java.util.Set;
import java.util.TreeMap;
import java.util.TreeSet;
import javax.lang.model.element.Element;
import javax.lang.model.element.ElementKind;
import javax.lang.model.element.TypeElement;
import javax.lang.model.type.TypeMirror;
import javax.tools.JavaCompiler;
import javax.tools.StandardJavaFileManager;
import javax.tools.ToolProvider;

/** Rules of LANGUAGE.md, looked at in the class as the compiler itself reads it. */
final class RulesTest extends TreePathScanner<Void, Void> {
  private static final String OWN = "ElderChest";
  /** Rule 4, as far as the class uses it; more of that rule may be added here. */
  private static final Set<String> LIBRARY = Set.of("java.lang.String.length",
      "java.lang.String.charAt", "java.lang.Integer.bitCount",
      "java.lang.Integer.numberOfTrailingZeros", "java.lang.Math.min", "java.lang.Math.max",
      "java.lang.System.arraycopy", "java.util.Arrays.fill");
  private static final Set<String> TYPES = Set.of("int", "long", "boolean", "int[]", "long[]",
      "boolean[]", "int[][]", "java.lang.String");
  private static final int DEEPEST = 8;

  private final Trees trees;
  /** Which of the methods of the class each of them calls. */
  private final Map<String, Set<String>> calls = new TreeMap<>();
  private int classes;

  private RulesTest(Trees trees) {
    this.trees = trees;
  }

  public static void main(String[] args) throws IOException {
    JavaCompiler compiler = ToolProvider.getSystemJavaCompiler();
    try (StandardJavaFileManager files = compiler.getStandardFileManager(null, null, null)) {
      JavacTask task = (JavacTask) compiler.getTask(null, files, null, List.of("-proc:none"), null,
          files.getJavaFileObjects(new File("src/main/java/ElderChest.java")));
      Iterable<? extends CompilationUnitTree> units = task.parse();
      task.analyze();
      RulesTest test = new RulesTest(Trees.instance(task));
      for (CompilationUnitTree unit : units) {
        test.scan(unit, null);
      }
      test.rule11Classes();
      test.rule11Depth();
    }
    Due.end("RulesTest");
  }

  private void rule11Classes() {
    Due.due("rule 11: classes, " + classes, classes <= 12);
  }

  /** Also what goes through a recursion is counted, each method of it once. */
  private void rule11Depth() {
    for (String method : calls.keySet()) {
      List<String> way = longest(method, Set.of(method));
      Due.due("rule 11: calls go " + way.size() + " deep: " + way, way.size() <= DEEPEST);
    }
    Due.due("rule 11: text() and its readers were seen", calls.containsKey("ElderChest.text()"));
  }

  private List<String> longest(String method, Set<String> on) {
    List<String> best = List.of();
    for (String next : calls.getOrDefault(method, Set.of())) {
      if (!on.contains(next)) {
        Set<String> more = new TreeSet<>(on);
        more.add(next);
        List<String> way = longest(next, more);
        best = way.size() > best.size() ? way : best;
      }
    }
    List<String> way = new ArrayList<>(best);
    way.add(0, method);
    return way;
  }

  private static String named(Element method) {
    return ((TypeElement) method.getEnclosingElement()).getQualifiedName()
        + "." + method;
  }

  private Element element() {
    return trees.getElement(getCurrentPath());
  }

  /** The method that a place is in, or null if it is the start of a field. */
  private MethodTree around() {
    TreePath path = getCurrentPath();
    while (path != null && !(path.getLeaf() instanceof ClassTree)) {
      if (path.getLeaf() instanceof MethodTree method) {
        return method;
      }
      path = path.getParentPath();
    }
    return null;
  }

  private boolean isMadeAtFirst() {
    MethodTree method = around();
    return method == null || method.getName().contentEquals("<init>");
  }

  @Override
  public Void visitClass(ClassTree tree, Void none) {
    classes++;
    Due.due("rule 2: no class inside a method", around() == null);
    return super.visitClass(tree, none);
  }

  @Override
  public Void visitMethod(MethodTree tree, Void none) {
    calls.computeIfAbsent(named(element()), name -> new TreeSet<>());
    Due.due("rule 11: parameters of " + tree.getName(), tree.getParameters().size() <= 7);
    return super.visitMethod(tree, none);
  }

  @Override
  public Void visitMethodInvocation(MethodInvocationTree tree, Void none) {
    Element called = element();
    String owner = called.getEnclosingElement().toString();
    if (owner.startsWith(OWN)) {
      MethodTree method = around();
      if (method != null) {
        CompilationUnitTree unit = getCurrentPath().getCompilationUnit();
        Element caller = trees.getElement(trees.getPath(unit, method));
        calls.computeIfAbsent(named(caller), name -> new TreeSet<>()).add(named(called));
      }
    } else if (called.getKind() != ElementKind.CONSTRUCTOR) {
      String library = owner + "." + called.getSimpleName();
      Due.due("rule 4: " + library, LIBRARY.contains(library));
    }
    return super.visitMethodInvocation(tree, none);
  }

  @Override
  public Void visitVariable(VariableTree tree, Void none) {
    TypeMirror type = element().asType();
    boolean own = type.toString().startsWith(OWN);
    Due.due("rule 3: " + type + " " + tree.getName(), own || TYPES.contains(type.toString()));
    return super.visitVariable(tree, none);
  }

  @Override
  public Void visitNewClass(NewClassTree tree, Void none) {
    Due.due("rule 12: made in a constructor: " + tree, isMadeAtFirst());
    Due.due("rule 2: no class without a name", tree.getClassBody() == null);
    return super.visitNewClass(tree, none);
  }

  @Override
  public Void visitNewArray(NewArrayTree tree, Void none) {
    Due.due("rule 12: made in a constructor: " + tree, isMadeAtFirst());
    return super.visitNewArray(tree, none);
  }

  @Override
  public Void visitForLoop(ForLoopTree tree, Void none) {
    Due.due("rule 9: a loop with an end", tree.getCondition() != null
        && tree.getCondition().toString().matches("(?s).*[<>].*") && tree.getUpdate().size() == 1);
    return super.visitForLoop(tree, none);
  }

  @Override
  public Void visitWhileLoop(WhileLoopTree tree, Void none) {
    Due.due("rule 9: a loop with an end",
        tree.getCondition().toString().matches("(?s).*[<>].*"));
    return super.visitWhileLoop(tree, none);
  }

  @Override
  public Void visitTypeCast(TypeCastTree tree, Void none) {
    Due.due("rules 3, 7: a cast of a number: " + tree,
        tree.getType().getKind() == Tree.Kind.PRIMITIVE_TYPE);
    return super.visitTypeCast(tree, none);
  }

  @Override
  public Void visitLambdaExpression(LambdaExpressionTree tree, Void none) {
    Due.due("rule 2: no lambda", false);
    return super.visitLambdaExpression(tree, none);
  }

  @Override
  public Void visitMemberReference(MemberReferenceTree tree, Void none) {
    Due.due("rule 2: no method reference", false);
    return super.visitMemberReference(tree, none);
  }
}
