import com.sun.source.tree.CatchTree;
import com.sun.source.tree.ClassTree;
import com.sun.source.tree.CompilationUnitTree;
import com.sun.source.tree.LineMap;
import com.sun.source.tree.MethodInvocationTree;
import com.sun.source.tree.MethodTree;
import com.sun.source.tree.NewArrayTree;
import com.sun.source.tree.NewClassTree;
import com.sun.source.tree.ThrowTree;
import com.sun.source.tree.Tree;
import com.sun.source.tree.VariableTree;
import com.sun.source.util.JavacTask;
import com.sun.source.util.SourcePositions;
import com.sun.source.util.TreePath;
import com.sun.source.util.TreePathScanner;
import com.sun.source.util.Trees;
import java.io.IOException;
import java.nio.file.Path;
import java.util.HashMap;
import java.util.LinkedHashMap;
import java.util.LinkedHashSet;
import java.util.List;
import java.util.Map;
import java.util.Set;
import javax.lang.model.element.Element;
import javax.tools.JavaCompiler;
import javax.tools.StandardJavaFileManager;
import javax.tools.ToolProvider;

/** Rules 6, 8, 11 and 12 of LANGUAGE.md, so far as the compiler's own trees of the source tell them. */
public final class RulesTest extends TreePathScanner<Void, Void> {
  private static final Path SOURCE = Path.of("src/main/java/NumberModels.java");
  private static final int MOST_LINES = 60;
  private static final int MOST_DEPTH = 8;
  private static final int MOST_PARAMETERS = 7;
  private static final int MOST_CLASSES = 12;

  private final Due due = new Due();
  private final Trees trees;
  private final Map<Element, Set<Element>> calls = new LinkedHashMap<>();
  private final Map<Element, Integer> depths = new HashMap<>();
  private int classes;

  private RulesTest(Trees trees) {
    this.trees = trees;
  }

  public static void main(String[] args) throws IOException {
    JavaCompiler compiler = ToolProvider.getSystemJavaCompiler();
    try (StandardJavaFileManager files = compiler.getStandardFileManager(null, null, null)) {
      JavacTask task = (JavacTask) compiler.getTask(null, files, null, null, null, files.getJavaFileObjects(SOURCE));
      Iterable<? extends CompilationUnitTree> units = task.parse();
      task.analyze();
      RulesTest test = new RulesTest(Trees.instance(task));
      for (CompilationUnitTree unit : units) {
        test.scan(unit, null);
      }
      test.depths();
      test.due.end();
    }
  }

  @Override
  public Void visitClass(ClassTree node, Void nothing) {
    classes++;
    return super.visitClass(node, nothing);
  }

  @Override
  public Void visitMethod(MethodTree node, Void nothing) {
    calls.computeIfAbsent(here(), method -> new LinkedHashSet<>());
    due.holds(node.getName() + " stays short", lines(node) <= MOST_LINES);
    due.holds(node.getName() + " takes seven at most", node.getParameters().size() <= MOST_PARAMETERS);
    return super.visitMethod(node, nothing);
  }

  @Override
  public Void visitMethodInvocation(MethodInvocationTree node, Void nothing) {
    Element method = enclosing(Tree.Kind.METHOD);
    if (method != null) {
      calls.computeIfAbsent(method, any -> new LinkedHashSet<>()).add(here());
    }
    return super.visitMethodInvocation(node, nothing);
  }

  @Override
  public Void visitNewClass(NewClassTree node, Void nothing) {
    due.holds(node + " is a field's or thrown", parent() instanceof ThrowTree || isOfField());
    return super.visitNewClass(node, nothing);
  }

  @Override
  public Void visitNewArray(NewArrayTree node, Void nothing) {
    due.holds(node + " is a field's", isOfField());
    return super.visitNewArray(node, nothing);
  }

  @Override
  public Void visitThrow(ThrowTree node, Void nothing) {
    Element method = enclosing(Tree.Kind.METHOD);
    due.holds(node + " is not in a constructor", method != null && !method.getSimpleName().contentEquals("<init>"));
    return super.visitThrow(node, nothing);
  }

  @Override
  public Void visitCatch(CatchTree node, Void nothing) {
    due.holds("nothing is caught", false);
    return super.visitCatch(node, nothing);
  }

  private void depths() {
    due.holds("some twelve classes at most", classes <= MOST_CLASSES);
    due.holds("methods were seen", calls.size() > 0);
    for (Element method : List.copyOf(calls.keySet())) {
      int depth = depth(method, new LinkedHashSet<>());
      due.holds(method + " goes at most eight deep, not " + depth, depth <= MOST_DEPTH);
    }
  }

  /** How many calls stand open at once, the library's counted too; a method that comes back to itself is too deep. */
  private int depth(Element method, Set<Element> open) {
    if (depths.containsKey(method)) {
      return depths.get(method);
    }
    if (!open.add(method)) {
      return MOST_DEPTH + 1;
    }
    int below = 0;
    for (Element called : calls.getOrDefault(method, Set.of())) {
      below = Math.max(below, depth(called, open));
    }
    open.remove(method);
    depths.put(method, below + 1);
    return below + 1;
  }

  private Element here() {
    return trees.getElement(getCurrentPath());
  }

  private Tree parent() {
    return getCurrentPath().getParentPath().getLeaf();
  }

  private boolean isOfField() {
    return parent() instanceof VariableTree && enclosing(Tree.Kind.METHOD) == null;
  }

  private Element enclosing(Tree.Kind kind) {
    for (TreePath path = getCurrentPath(); path != null; path = path.getParentPath()) {
      if (path.getLeaf().getKind() == kind) {
        return trees.getElement(path);
      }
    }
    return null;
  }

  private long lines(MethodTree node) {
    CompilationUnitTree unit = getCurrentPath().getCompilationUnit();
    SourcePositions positions = trees.getSourcePositions();
    LineMap map = unit.getLineMap();
    return map.getLineNumber(positions.getEndPosition(unit, node))
        - map.getLineNumber(positions.getStartPosition(unit, node)) + 1;
  }
}
