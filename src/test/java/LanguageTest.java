import com.sun.source.tree.AssertTree;
import com.sun.source.tree.BinaryTree;
import com.sun.source.tree.BlockTree;
import com.sun.source.tree.CatchTree;
import com.sun.source.tree.ClassTree;
import com.sun.source.tree.CompilationUnitTree;
import com.sun.source.tree.DoWhileLoopTree;
import com.sun.source.tree.ForLoopTree;
import com.sun.source.tree.ImportTree;
import com.sun.source.tree.LambdaExpressionTree;
import com.sun.source.tree.LiteralTree;
import com.sun.source.tree.MemberReferenceTree;
import com.sun.source.tree.MethodInvocationTree;
import com.sun.source.tree.MethodTree;
import com.sun.source.tree.NewClassTree;
import com.sun.source.tree.SynchronizedTree;
import com.sun.source.tree.ThrowTree;
import com.sun.source.tree.Tree;
import com.sun.source.tree.TryTree;
import com.sun.source.tree.VariableTree;
import com.sun.source.tree.WhileLoopTree;
import com.sun.source.util.JavacTask;
import com.sun.source.util.TreePathScanner;
import com.sun.source.util.Trees;
import java.nio.file.Path;
import java.util.ArrayList;
import java.util.HashMap;
import java.util.List;
import java.util.Map;
import java.util.Set;
import java.util.TreeMap;
import java.util.TreeSet;
import javax.lang.model.element.Element;
import javax.lang.model.element.Modifier;
import javax.lang.model.element.TypeElement;
import javax.tools.JavaCompiler;
import javax.tools.StandardJavaFileManager;
import javax.tools.ToolProvider;

/**
 * What the compiler's own trees tell of the rules of ../shared/LANGUAGE.md: it finds slips, it proves nothing, and what
 * those rules leave free it lets be. Rule 1 is FaceTest's. Runs from the project's root.
 */
public final class LanguageTest extends TreePathScanner<Void, Void> {
  private static final Path SOURCE = Path.of("src/main/java/ForestCourts.java");
  private static final int MOST_DEEP = 8;

  private static final Set<String> IMPORTS = Set.of("java.util.Arrays", "java.util.ArrayList", "java.util.List",
      "java.util.Iterator", "java.util.NoSuchElementException");
  private static final Set<String> EXCEPTIONS = Set.of("IllegalStateException", "IllegalArgumentException",
      "IndexOutOfBoundsException", "ArithmeticException", "UnsupportedOperationException", "NoSuchElementException",
      "RuntimeException");
  private static final Set<String> LIBRARY = Set.of(
      "String.length", "String.charAt", "String.isEmpty", "String.equals", "String.indexOf", "String.substring",
      "String.toCharArray", "String.new", "StringBuilder.new", "StringBuilder.append", "StringBuilder.charAt",
      "StringBuilder.setCharAt", "StringBuilder.setLength", "StringBuilder.deleteCharAt", "StringBuilder.reverse",
      "StringBuilder.length", "StringBuilder.toString", "ArrayList.new", "ArrayList.add", "ArrayList.get", "ArrayList.set",
      "ArrayList.remove", "ArrayList.size", "ArrayList.isEmpty", "ArrayList.clear", "List.add", "List.get", "List.set",
      "List.remove", "List.size", "List.isEmpty", "List.clear", "List.of", "System.arraycopy", "Arrays.copyOf",
      "Arrays.copyOfRange", "Arrays.fill", "Object.new", "Object.clone", "Array.clone");

  private final Due due = new Due();
  private final Map<String, Set<String>> calls = new TreeMap<>();
  private final Set<String> hidden = new TreeSet<>();
  private final Map<String, Integer> depths = new HashMap<>();
  private final Trees trees;
  private final CompilationUnitTree unit;
  private int classes = 0;
  private String inClass = "";
  private String inMethod = "";

  private LanguageTest(Trees trees, CompilationUnitTree unit) {
    this.trees = trees;
    this.unit = unit;
  }

  public static void main(String[] args) throws Exception {
    JavaCompiler compiler = ToolProvider.getSystemJavaCompiler();
    try (StandardJavaFileManager files = compiler.getStandardFileManager(null, null, null)) {
      JavacTask task = (JavacTask) compiler.getTask(null, files, null, List.of("-proc:none"), null, files.getJavaFileObjects(SOURCE));
      CompilationUnitTree unit = task.parse().iterator().next();
      task.analyze();
      new LanguageTest(Trees.instance(task), unit).look();
    }
  }

  private void look() {
    due.fails("rule 1: a package line", unit.getPackageName() != null);
    scan(unit, null);
    due.holds("rule 11: some twelve classes, here " + classes, classes <= 13);
    for (String method : calls.keySet()) {
      due.holds("rule 11: at most eight deep, but by " + path(method), depth(method) <= MOST_DEEP);
      boolean again = round(method).size() > 1 || callsOf(method).contains(method);
      due.holds("rule 8: only what is private calls itself, " + method, !again || hidden.contains(method));
    }
    due.end();
  }

  private void bar(int rule, String what) {
    due.holds("rule " + rule + ": " + what + " in " + inClass + "." + inMethod, false);
  }

  // ---- what stands where

  @Override
  public Void visitImport(ImportTree tree, Void none) {
    String name = tree.getQualifiedIdentifier().toString();
    due.holds("rule 4: import " + name, IMPORTS.contains(name) && !tree.isStatic());
    return null;
  }

  @Override
  public Void visitClass(ClassTree tree, Void none) {
    String outer = inClass;
    inClass = tree.getSimpleName().toString();
    classes++;
    int fields = 0;
    for (Tree member : tree.getMembers()) {
      if (member instanceof VariableTree field) {
        boolean isStatic = field.getModifiers().getFlags().contains(Modifier.STATIC);
        fields += isStatic ? 0 : 1;
        due.holds("rule 5: static " + field.getName() + " is final",
            !isStatic || field.getModifiers().getFlags().contains(Modifier.FINAL));
      }
      due.fails("rule 5: what is done at the start of " + inClass, member instanceof BlockTree block && block.isStatic());
    }
    due.holds("rule 11: some twenty fields in " + inClass + ", here " + fields, fields <= 20);
    super.visitClass(tree, none);
    inClass = outer;
    return null;
  }

  @Override
  public Void visitMethod(MethodTree tree, Void none) {
    inMethod = tree.getName().toString().replace("<init>", "new");
    Set<Modifier> flags = tree.getModifiers().getFlags();
    String name = inClass + "." + inMethod;
    long first = lineOf(trees.getSourcePositions().getStartPosition(unit, tree));
    long last = lineOf(trees.getSourcePositions().getEndPosition(unit, tree));
    due.holds("rule 11: some sixty lines in " + name + ", here " + (last - first + 1), last - first < 65);
    due.holds("rule 11: seven parameters in " + name, tree.getParameters().size() <= 7);
    due.fails("rule 6: " + name, Set.of("equals", "hashCode", "toString").contains(inMethod));
    due.fails("rule 6: synchronized or native " + name, flags.contains(Modifier.SYNCHRONIZED) || flags.contains(Modifier.NATIVE));
    calls.computeIfAbsent(name, k -> new TreeSet<>());
    if (flags.contains(Modifier.PRIVATE)) {
      hidden.add(name);
    }
    super.visitMethod(tree, none);
    inMethod = "";
    return null;
  }

  private long lineOf(long position) {
    return unit.getLineMap().getLineNumber(position);
  }

  @Override
  public Void visitMethodInvocation(MethodInvocationTree tree, Void none) {
    called(trees.getElement(getCurrentPath()), tree.toString());
    return super.visitMethodInvocation(tree, none);
  }

  @Override
  public Void visitNewClass(NewClassTree tree, Void none) {
    called(trees.getElement(getCurrentPath()), tree.toString());
    return super.visitNewClass(tree, none);
  }

  private void called(Element element, String text) {
    if (element == null || !(element.getEnclosingElement() instanceof TypeElement owner)) {
      bar(4, text);
      return;
    }
    String name = owner.getSimpleName() + "." + element.getSimpleName().toString().replace("<init>", "new");
    if (owner.getQualifiedName().toString().startsWith("ForestCourts")) {
      calls.computeIfAbsent(inClass + "." + inMethod, k -> new TreeSet<>()).add(name);
      return;
    }
    boolean counts = name.matches("(Integer|Long|Math)\\..*") && !name.endsWith("Exact");
    boolean exception = name.endsWith(".new") && EXCEPTIONS.contains(owner.getSimpleName().toString());
    due.holds("rule 4: " + name + " in " + inClass + "." + inMethod, counts || exception || LIBRARY.contains(name));
  }

  @Override
  public Void visitThrow(ThrowTree tree, Void none) {
    boolean good = tree.getExpression() instanceof NewClassTree made && EXCEPTIONS.contains(made.getIdentifier().toString())
        && made.getArguments().size() <= 1 && made.getArguments().stream().allMatch(a -> a instanceof LiteralTree);
    due.holds("rule 6: " + tree, good && !inMethod.equals("new"));
    return super.visitThrow(tree, none);
  }

  @Override
  public Void visitTry(TryTree tree, Void none) {
    due.holds("rule 6: try in " + inClass + "." + inMethod, tree.getFinallyBlock() == null && tree.getResources().isEmpty());
    return super.visitTry(tree, none);
  }

  @Override
  public Void visitCatch(CatchTree tree, Void none) {
    due.holds("rule 6: " + tree, EXCEPTIONS.contains(tree.getParameter().getType().toString()));
    return super.visitCatch(tree, none);
  }

  @Override
  public Void visitLambdaExpression(LambdaExpressionTree tree, Void none) {
    bar(2, tree.toString());
    return null;
  }

  @Override
  public Void visitMemberReference(MemberReferenceTree tree, Void none) {
    bar(2, tree.toString());
    return null;
  }

  @Override
  public Void visitAssert(AssertTree tree, Void none) {
    bar(6, tree.toString());
    return null;
  }

  @Override
  public Void visitSynchronized(SynchronizedTree tree, Void none) {
    bar(6, tree.toString());
    return null;
  }

  @Override
  public Void visitBinary(BinaryTree tree, Void none) {
    boolean joins = tree.getKind() == Tree.Kind.PLUS && String.valueOf(trees.getTypeMirror(getCurrentPath())).endsWith("String");
    due.fails("rule 10: " + tree, joins);
    return super.visitBinary(tree, none);
  }

  @Override
  public Void visitWhileLoop(WhileLoopTree tree, Void none) {
    due.fails("rule 9: " + tree, tree.getCondition().toString().equals("(true)"));
    return super.visitWhileLoop(tree, none);
  }

  @Override
  public Void visitDoWhileLoop(DoWhileLoopTree tree, Void none) {
    due.fails("rule 9: " + tree, tree.getCondition().toString().equals("(true)"));
    return super.visitDoWhileLoop(tree, none);
  }

  @Override
  public Void visitForLoop(ForLoopTree tree, Void none) {
    due.fails("rule 9: " + tree, tree.getCondition() == null);
    return super.visitForLoop(tree, none);
  }

  @Override
  public Void visitLiteral(LiteralTree tree, Void none) {
    if (tree.getValue() instanceof String text) {
      due.holds("rule 4: the signs of \"" + text + "\"", text.chars().allMatch(c -> c >= 1 && c <= 127));
    }
    return null;
  }

  // ---- how deep calls go

  private Set<String> callsOf(String method) {
    return calls.getOrDefault(method, Set.of());
  }

  private Set<String> reached(String method) {
    Set<String> all = new TreeSet<>();
    List<String> open = new ArrayList<>(callsOf(method));
    while (!open.isEmpty()) {
      String next = open.remove(open.size() - 1);
      if (all.add(next)) {
        open.addAll(callsOf(next));
      }
    }
    return all;
  }

  /** A method and those that it calls and that call it: the recursion, which counts once. */
  private Set<String> round(String method) {
    Set<String> round = new TreeSet<>(Set.of(method));
    for (String other : reached(method)) {
      if (reached(other).contains(method)) {
        round.add(other);
      }
    }
    return round;
  }

  private int depth(String method) {
    if (!depths.containsKey(method)) {
      String next = deepest(method);
      depths.put(method, next == null ? 1 : 1 + depth(next));
    }
    return depths.get(method);
  }

  private String deepest(String method) {
    Set<String> round = round(method);
    String deepest = null;
    for (String one : round) {
      for (String next : callsOf(one)) {
        if (!round.contains(next) && (deepest == null || depth(next) > depth(deepest))) {
          deepest = next;
        }
      }
    }
    return deepest;
  }

  private String path(String method) {
    StringBuilder path = new StringBuilder(method);
    for (String next = deepest(method); next != null; next = deepest(next)) {
      path.append(" > ").append(next);
    }
    return path.toString();
  }
}
