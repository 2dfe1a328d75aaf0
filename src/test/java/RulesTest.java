import com.sun.source.tree.AssertTree;
import com.sun.source.tree.BinaryTree;
import com.sun.source.tree.ClassTree;
import com.sun.source.tree.CompilationUnitTree;
import com.sun.source.tree.DoWhileLoopTree;
import com.sun.source.tree.EnhancedForLoopTree;
import com.sun.source.tree.ExpressionTree;
import com.sun.source.tree.ForLoopTree;
import com.sun.source.tree.LambdaExpressionTree;
import com.sun.source.tree.LiteralTree;
import com.sun.source.tree.MemberReferenceTree;
import com.sun.source.tree.MemberSelectTree;
import com.sun.source.tree.MethodInvocationTree;
import com.sun.source.tree.MethodTree;
import com.sun.source.tree.NewArrayTree;
import com.sun.source.tree.NewClassTree;
import com.sun.source.tree.SynchronizedTree;
import com.sun.source.tree.ThrowTree;
import com.sun.source.tree.Tree;
import com.sun.source.tree.TryTree;
import com.sun.source.tree.TypeCastTree;
import com.sun.source.tree.VariableTree;
import com.sun.source.tree.WhileLoopTree;
import com.sun.source.util.JavacTask;
import com.sun.source.util.TreePath;
import com.sun.source.util.TreePathScanner;
import com.sun.source.util.Trees;
import java.io.IOException;
import java.nio.file.Path;
import java.util.ArrayList;
import java.util.HashMap;
import java.util.HashSet;
import java.util.List;
import java.util.Map;
import java.util.Set;
import java.util.TreeSet;
import javax.lang.model.element.Element;
import javax.lang.model.element.ElementKind;
import javax.lang.model.element.ExecutableElement;
import javax.lang.model.element.Modifier;
import javax.lang.model.type.ArrayType;
import javax.lang.model.type.TypeKind;
import javax.lang.model.type.TypeMirror;
import javax.tools.JavaCompiler;
import javax.tools.StandardJavaFileManager;
import javax.tools.ToolProvider;

/** The rules of LANGUAGE.md, seen in the tree that the compiler makes of the class. */
final class RulesTest extends TreePathScanner<Void, Void> {
  private static final Check check = new Check("RulesTest");
  private static final Path SOURCE = Path.of("src/main/java/PardonLamps.java");
  private static final int MOST_LINES = 60;
  private static final int MOST_PARAMETERS = 7;
  private static final int MOST_DEEP = 8;

  private static final Set<String> LIBRARY = Set.of(
      "String.length", "String.charAt", "String.isEmpty", "String.equals", "String.indexOf", "String.substring",
      "String.toCharArray", "Math.max", "Math.min", "Math.abs", "Integer.bitCount", "Integer.compare", "Long.compare",
      "Math.floorDiv", "Math.floorMod", "System.arraycopy", "Arrays.fill", "Arrays.copyOf", "Arrays.copyOfRange");
  private static final Set<String> THROWN = Set.of("IllegalStateException", "IllegalArgumentException",
      "IndexOutOfBoundsException", "ArithmeticException", "UnsupportedOperationException", "NoSuchElementException",
      "RuntimeException");

  private final Trees trees;
  private final CompilationUnitTree unit;
  /** Whom each method calls, and the parameters of each. */
  private final Map<String, Set<String>> calls = new HashMap<>();
  private final Map<String, Integer> numbers = new HashMap<>();
  private final Set<String> face = new TreeSet<>();

  private RulesTest(Trees trees, CompilationUnitTree unit) {
    this.trees = trees;
    this.unit = unit;
  }

  public static void main(String[] args) throws IOException {
    JavaCompiler compiler = ToolProvider.getSystemJavaCompiler();
    try (StandardJavaFileManager files = compiler.getStandardFileManager(null, null, null)) {
      JavacTask task = (JavacTask) compiler.getTask(null, files, null, List.of("--release", "17"), null,
          files.getJavaFileObjects(SOURCE));
      CompilationUnitTree unit = task.parse().iterator().next();
      task.analyze();
      RulesTest rules = new RulesTest(Trees.instance(task), unit);
      rules.due("rule 1: no package", unit.getPackageName() == null);
      rules.due("one class in the file", unit.getTypeDecls().size() == 1);
      rules.scan(unit, null);
      rules.recursion();
      rules.depth();
    }
    check.end();
  }

  private void due(String what, boolean so) {
    check.due(what, so, true);
  }

  private String at(Tree tree) {
    long place = trees.getSourcePositions().getStartPosition(unit, tree);
    return " (line " + unit.getLineMap().getLineNumber(place) + ")";
  }

  private Element element() {
    return trees.getElement(getCurrentPath());
  }

  private TypeMirror type(Tree tree) {
    return trees.getTypeMirror(TreePath.getPath(unit, tree));
  }

  private static boolean isOwn(TypeMirror type) {
    String name = type.toString();
    return name.equals("PardonLamps") || name.startsWith("PardonLamps.");
  }

  private boolean isWithinLoop() {
    for (TreePath path = getCurrentPath(); path != null; path = path.getParentPath()) {
      Tree tree = path.getLeaf();
      if (tree instanceof ForLoopTree || tree instanceof WhileLoopTree || tree instanceof DoWhileLoopTree
          || tree instanceof EnhancedForLoopTree) {
        return true;
      }
    }
    return false;
  }

  private MethodTree method() {
    for (TreePath path = getCurrentPath(); path != null; path = path.getParentPath()) {
      if (path.getLeaf() instanceof MethodTree m) {
        return m;
      }
    }
    return null;
  }

  private boolean isInConstructor() {
    MethodTree m = method();
    return m != null && m.getName().contentEquals("<init>");
  }

  @Override
  public Void visitClass(ClassTree tree, Void none) {
    Element c = element();
    if (c.getEnclosingElement().getKind() == ElementKind.PACKAGE) {
      due("rule 1: public and final", c.getModifiers().containsAll(Set.of(Modifier.PUBLIC, Modifier.FINAL)));
    } else {
      due("rule 2: static, inside the class" + at(tree), c.getModifiers().contains(Modifier.STATIC)
          && c.getEnclosingElement().getKind().isClass());
    }
    int fields = 0;
    for (Tree member : tree.getMembers()) {
      due("rule 5: no initialiser block" + at(member), member.getKind() != Tree.Kind.BLOCK);
      if (member instanceof VariableTree v && !v.getModifiers().getFlags().contains(Modifier.STATIC)) {
        fields++;
      }
    }
    due("rule 11: some twenty fields" + at(tree), fields <= 20);
    return super.visitClass(tree, none);
  }

  @Override
  public Void visitVariable(VariableTree tree, Void none) {
    Element v = element();
    TypeMirror type = v.asType();
    due("rule 3: the type " + type + at(tree), isAllowed(type));
    if (v.getKind() == ElementKind.FIELD && v.getModifiers().contains(Modifier.STATIC)) {
      due("rule 5: final" + at(tree), v.getModifiers().contains(Modifier.FINAL));
      due("rule 5: a constant" + at(tree), Set.of("int", "long", "boolean", "char", "java.lang.String").contains(type.toString()));
    }
    return super.visitVariable(tree, none);
  }

  private static boolean isAllowed(TypeMirror type) {
    if (type instanceof ArrayType a) {
      TypeMirror part = a.getComponentType();
      return part instanceof ArrayType inner ? inner.getComponentType().getKind().isPrimitive()
          : part.getKind().isPrimitive() || isOwn(part);
    }
    boolean number = type.getKind().isPrimitive() && type.getKind() != TypeKind.DOUBLE && type.getKind() != TypeKind.FLOAT;
    return number || isOwn(type) || type.toString().equals("java.lang.String");
  }

  @Override
  public Void visitMethod(MethodTree tree, Void none) {
    ExecutableElement m = (ExecutableElement) element();
    String name = id(m);
    calls.computeIfAbsent(name, n -> new TreeSet<>());
    int ints = 0;
    for (VariableTree p : tree.getParameters()) {
      ints += p.getType().toString().equals("int") ? 1 : 0;
    }
    numbers.merge(name, ints, Math::max);
    if (m.getModifiers().contains(Modifier.PUBLIC)) {
      face.add(name);
    }
    due("rule 11: parameters of " + name, tree.getParameters().size() <= MOST_PARAMETERS);
    long from = unit.getLineMap().getLineNumber(trees.getSourcePositions().getStartPosition(unit, tree));
    long to = unit.getLineMap().getLineNumber(trees.getSourcePositions().getEndPosition(unit, tree));
    due("rule 11: lines of " + name, to - from < MOST_LINES);
    due("rule 6: none of equals, hashCode, toString", !Set.of("equals", "hashCode", "toString").contains(m.getSimpleName().toString()));
    return super.visitMethod(tree, none);
  }

  private static String id(ExecutableElement m) {
    return m.getEnclosingElement().getSimpleName() + "." + m.getSimpleName() + m.getParameters();
  }

  @Override
  public Void visitMethodInvocation(MethodInvocationTree tree, Void none) {
    if (element() instanceof ExecutableElement called) {
      call(called, tree);
    }
    return super.visitMethodInvocation(tree, none);
  }

  private void call(ExecutableElement called, Tree tree) {
    if (isOwn(called.getEnclosingElement().asType())) {
      MethodTree from = method();
      if (from != null) {
        ExecutableElement caller = (ExecutableElement) trees.getElement(TreePath.getPath(unit, from));
        calls.computeIfAbsent(id(caller), n -> new TreeSet<>()).add(id(called));
      }
      return;
    }
    String name = called.getEnclosingElement().getSimpleName() + "." + called.getSimpleName();
    due("rule 4: " + name + at(tree), LIBRARY.contains(name) || name.equals("Object.<init>"));
  }

  @Override
  public Void visitMemberSelect(MemberSelectTree tree, Void none) {
    Element e = element();
    if (e != null && e.getKind() == ElementKind.FIELD) {
      boolean length = tree.getIdentifier().contentEquals("length");
      due("rule 4: no field of the library" + at(tree), length || isOwn(e.getEnclosingElement().asType()));
    }
    return super.visitMemberSelect(tree, none);
  }

  @Override
  public Void visitNewClass(NewClassTree tree, Void none) {
    TypeMirror made = type(tree);
    boolean thrown = getCurrentPath().getParentPath().getLeaf() instanceof ThrowTree;
    due("rule 4: new " + made + at(tree), isOwn(made) || thrown);
    due("rule 2: no anonymous class" + at(tree), tree.getClassBody() == null);
    // What is kept is made with the object, so that calls take no room.
    due("rule 12: made with the object" + at(tree), thrown || method() == null || isInConstructor());
    return super.visitNewClass(tree, none);
  }

  @Override
  public Void visitNewArray(NewArrayTree tree, Void none) {
    due("rule 12: made with the object, in no loop" + at(tree), (method() == null || isInConstructor()) && !isWithinLoop());
    return super.visitNewArray(tree, none);
  }

  @Override
  public Void visitThrow(ThrowTree tree, Void none) {
    due("rule 6: throw new E()" + at(tree), tree.getExpression() instanceof NewClassTree);
    due("rule 6: " + type(tree.getExpression()) + at(tree),
        THROWN.contains(type(tree.getExpression()).toString().replaceAll(".*\\.", "")));
    due("rule 6: not in a constructor" + at(tree), !isInConstructor());
    due("rests alone throws" + at(tree), method() != null && method().getName().contentEquals("rests"));
    return super.visitThrow(tree, none);
  }

  @Override
  public Void visitTry(TryTree tree, Void none) {
    due("no try is needed" + at(tree), false);
    return super.visitTry(tree, none);
  }

  @Override
  public Void visitLambdaExpression(LambdaExpressionTree tree, Void none) {
    due("rule 2: no lambda" + at(tree), false);
    return super.visitLambdaExpression(tree, none);
  }

  @Override
  public Void visitMemberReference(MemberReferenceTree tree, Void none) {
    due("rule 2: no method reference" + at(tree), false);
    return super.visitMemberReference(tree, none);
  }

  @Override
  public Void visitAssert(AssertTree tree, Void none) {
    due("rule 6: no assert" + at(tree), false);
    return super.visitAssert(tree, none);
  }

  @Override
  public Void visitSynchronized(SynchronizedTree tree, Void none) {
    due("rule 6: no synchronized" + at(tree), false);
    return super.visitSynchronized(tree, none);
  }

  @Override
  public Void visitTypeCast(TypeCastTree tree, Void none) {
    due("a cast of numbers" + at(tree), type(tree).getKind().isPrimitive());
    return super.visitTypeCast(tree, none);
  }

  @Override
  public Void visitBinary(BinaryTree tree, Void none) {
    boolean number = type(tree.getLeftOperand()).getKind().isPrimitive() && type(tree.getRightOperand()).getKind().isPrimitive();
    due("rules 6 and 10: of numbers" + at(tree), number);
    if (tree.getKind() == Tree.Kind.DIVIDE || tree.getKind() == Tree.Kind.REMAINDER) {
      due("rule 7: a divisor that is known, or was looked at" + at(tree), isSafeDivisor(tree.getRightOperand()));
    }
    return super.visitBinary(tree, none);
  }

  /** A number that is written and not 0, a constant, or one that ?: has looked at. */
  private boolean isSafeDivisor(ExpressionTree divisor) {
    if (divisor instanceof LiteralTree l) {
      return l.getValue() instanceof Number n && n.longValue() != 0;
    }
    Element e = trees.getElement(TreePath.getPath(unit, divisor));
    if (e.getModifiers().containsAll(Set.of(Modifier.STATIC, Modifier.FINAL))) {
      return true;
    }
    for (TreePath path = getCurrentPath(); path != null; path = path.getParentPath()) {
      if (path.getLeaf().getKind() == Tree.Kind.CONDITIONAL_EXPRESSION) {
        return path.getLeaf().toString().startsWith(divisor + " > 0 ?");
      }
    }
    return false;
  }

  @Override
  public Void visitForLoop(ForLoopTree tree, Void none) {
    due("rule 9: a bound" + at(tree), tree.getCondition() != null && tree.getUpdate().size() == 1);
    return super.visitForLoop(tree, none);
  }

  @Override
  public Void visitWhileLoop(WhileLoopTree tree, Void none) {
    String condition = tree.getCondition().toString();
    due("rule 9: a counter against a bound" + at(tree), condition.startsWith("(at < length && "));
    due("rule 9: it counts" + at(tree), tree.getStatement().toString().contains("at++"));
    return super.visitWhileLoop(tree, none);
  }

  @Override
  public Void visitDoWhileLoop(DoWhileLoopTree tree, Void none) {
    due("rule 9: no loop without a counter" + at(tree), false);
    return super.visitDoWhileLoop(tree, none);
  }

  private Set<String> reached(String from) {
    Set<String> found = new HashSet<>();
    List<String> open = new ArrayList<>(calls.getOrDefault(from, Set.of()));
    while (!open.isEmpty()) {
      String next = open.remove(open.size() - 1);
      if (found.add(next)) {
        open.addAll(calls.getOrDefault(next, Set.of()));
      }
    }
    return found;
  }

  /** Rule 8: what calls itself has its depth as an argument. */
  private void recursion() {
    for (String name : calls.keySet()) {
      if (reached(name).contains(name)) {
        due("rule 8: a depth among the arguments of " + name, numbers.getOrDefault(name, 0) > 0);
        due("rule 8: not of the face: " + name, !face.contains(name));
      }
    }
  }

  /** Rule 11: the longest chain of calls from the face, what calls itself counted once. */
  private void depth() {
    due("the face", face.size() == 34);
    for (String name : face) {
      int deep = deepest(name, new HashSet<>());
      due("rule 11: " + deep + " deep from " + name, deep <= MOST_DEEP);
    }
  }

  private int deepest(String name, Set<String> open) {
    if (!open.add(name)) {
      return 0;
    }
    int most = 0;
    for (String next : calls.getOrDefault(name, Set.of())) {
      most = Math.max(most, open.contains(next) ? 0 : deepest(next, open));
    }
    open.remove(name);
    return most + 1;
  }
}
