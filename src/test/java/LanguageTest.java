import com.sun.source.tree.AssertTree;
import com.sun.source.tree.ClassTree;
import com.sun.source.tree.CompilationUnitTree;
import com.sun.source.tree.DoWhileLoopTree;
import com.sun.source.tree.ForLoopTree;
import com.sun.source.tree.LambdaExpressionTree;
import com.sun.source.tree.LineMap;
import com.sun.source.tree.MemberReferenceTree;
import com.sun.source.tree.MethodInvocationTree;
import com.sun.source.tree.MethodTree;
import com.sun.source.tree.NewArrayTree;
import com.sun.source.tree.NewClassTree;
import com.sun.source.tree.SynchronizedTree;
import com.sun.source.tree.ThrowTree;
import com.sun.source.tree.Tree;
import com.sun.source.tree.TryTree;
import com.sun.source.tree.VariableTree;
import com.sun.source.tree.WhileLoopTree;
import com.sun.source.util.JavacTask;
import com.sun.source.util.TreePathScanner;
import com.sun.source.util.Trees;
import java.io.File;
import java.io.IOException;
import java.util.HashMap;
import java.util.HashSet;
import java.util.LinkedHashSet;
import java.util.List;
import java.util.Map;
import java.util.Set;
import javax.lang.model.element.Element;
import javax.lang.model.element.ElementKind;
import javax.lang.model.element.Modifier;
import javax.tools.JavaCompiler;
import javax.tools.StandardJavaFileManager;
import javax.tools.ToolProvider;

/** The rules of LANGUAGE.md that can be read off the source; the class needs less than they allow. */
public final class LanguageTest extends TreePathScanner<Void, Element> {
  private static final File SOURCE = new File("src/main/java/RowFile.java");
  private static final Set<String> LIBRARY = Set.of(
      "java.lang.System.arraycopy(java.lang.Object,int,java.lang.Object,int,int)",
      "java.lang.Math.min(int,int)", "java.lang.Math.max(int,int)", "java.util.Arrays.fill(byte[],int,int,byte)");
  private static final Set<String> TYPES = Set.of(
      "int", "long", "byte", "boolean", "int[]", "long[]", "byte[]", "boolean[]");
  private static final int LINES = 60;
  private static final int PARAMETERS = 7;
  private static final int DEPTH = 8;
  private static final int CLASSES = 12;
  private static final int FIELDS = 20;

  private final Trees trees;
  private final CompilationUnitTree unit;
  private final Map<Element, Set<Element>> calls = new HashMap<>();
  private final Set<String> own = new HashSet<>();

  private LanguageTest(Trees trees, CompilationUnitTree unit) {
    this.trees = trees;
    this.unit = unit;
  }

  public static void main(String[] args) throws IOException {
    JavaCompiler compiler = ToolProvider.getSystemJavaCompiler();
    StandardJavaFileManager files = compiler.getStandardFileManager(null, null, null);
    List<String> options = List.of("-proc:none");
    JavacTask task = (JavacTask) compiler.getTask(null, files, null, options, null, files.getJavaFileObjects(SOURCE));
    CompilationUnitTree unit = task.parse().iterator().next();
    task.analyze();
    LanguageTest test = new LanguageTest(Trees.instance(task), unit);
    test.file();
    test.scan(unit, null);
    test.callsThatStandOpen();
    Due.end();
  }

  /** A rule that is broken is told with the line. */
  private void rule(int number, String what, boolean kept, Tree tree) {
    long line = unit.getLineMap().getLineNumber(start(tree));
    Due.due("rule " + number + ", line " + line + ": " + what, true, kept);
  }

  private long start(Tree tree) {
    return trees.getSourcePositions().getStartPosition(unit, tree);
  }

  private void file() throws IOException {
    Due.due("rule 1: no package", true, unit.getPackageName() == null);
    Due.due("rule 1: one class", 1, unit.getTypeDecls().size());
    unit.getImports().forEach(i -> rule(4, "import", i.toString().trim().equals("import java.util.Arrays;"), i));
    int above = 0;
    CharSequence text = unit.getSourceFile().getCharContent(true);
    for (int i = 0; i < text.length(); i++) if (text.charAt(i) > 255) above++;
    Due.due("rule 3: characters above 255", 0, above);
  }

  @Override
  public Void visitClass(ClassTree tree, Element in) {
    Element element = trees.getElement(getCurrentPath());
    own.add(element.toString());
    rule(2, "a nested class is static", in == null || element.getModifiers().contains(Modifier.STATIC), tree);
    rule(11, "classes", own.size() <= CLASSES, tree);
    long fields = element.getEnclosedElements().stream()
        .filter(e -> e.getKind() == ElementKind.FIELD && !e.getModifiers().contains(Modifier.STATIC)).count();
    rule(11, "fields of " + element, fields <= FIELDS, tree);
    return super.visitClass(tree, element);
  }

  @Override
  public Void visitMethod(MethodTree tree, Element in) {
    Element element = trees.getElement(getCurrentPath());
    LineMap lines = unit.getLineMap();
    long end = trees.getSourcePositions().getEndPosition(unit, tree);
    boolean isShort = end < 0 || lines.getLineNumber(end) - lines.getLineNumber(start(tree)) < LINES;
    rule(11, "the lines of " + tree.getName(), isShort, tree);
    rule(11, "the parameters of " + tree.getName(), tree.getParameters().size() <= PARAMETERS, tree);
    calls.put(element, new LinkedHashSet<>());
    return super.visitMethod(tree, element);
  }

  @Override
  public Void visitVariable(VariableTree tree, Element in) {
    Element element = trees.getElement(getCurrentPath());
    String type = element.asType().toString();
    rule(3, "the type " + type, TYPES.contains(type) || type.equals("RowFile") || type.startsWith("RowFile."), tree);
    if (element.getModifiers().contains(Modifier.STATIC)) {
      boolean isFinal = element.getModifiers().contains(Modifier.FINAL);
      rule(5, "a static field is a constant", isFinal && type.equals("int"), tree);
    }
    return super.visitVariable(tree, in);
  }

  @Override
  public Void visitMethodInvocation(MethodInvocationTree tree, Element in) {
    Element called = trees.getElement(getCurrentPath());
    String of = called.getEnclosingElement().toString();
    boolean ofOwn = of.equals("RowFile") || of.startsWith("RowFile.") || called.getSimpleName().contentEquals("<init>");
    rule(4, "the call of " + of + "." + called, ofOwn || LIBRARY.contains(of + "." + called), tree);
    if (ofOwn && calls.containsKey(in)) calls.get(in).add(called);
    return super.visitMethodInvocation(tree, in);
  }

  @Override
  public Void visitNewClass(NewClassTree tree, Element in) {
    rule(12, "an object is made with its owner", isMaking(in), tree);
    return super.visitNewClass(tree, in);
  }

  @Override
  public Void visitNewArray(NewArrayTree tree, Element in) {
    rule(12, "an array is made with its owner", isMaking(in), tree);
    return super.visitNewArray(tree, in);
  }

  /** Outside methods there are the fields, which are made with their object. */
  private boolean isMaking(Element in) {
    return !calls.containsKey(in) || in.getKind() == ElementKind.CONSTRUCTOR;
  }

  @Override
  public Void visitForLoop(ForLoopTree tree, Element in) {
    rule(9, "a loop has an end", tree.getCondition() != null && !tree.getUpdate().isEmpty(), tree);
    return super.visitForLoop(tree, in);
  }

  @Override
  public Void visitWhileLoop(WhileLoopTree tree, Element in) {
    return refused(9, "while", tree);
  }

  @Override
  public Void visitDoWhileLoop(DoWhileLoopTree tree, Element in) {
    return refused(9, "do", tree);
  }

  @Override
  public Void visitThrow(ThrowTree tree, Element in) {
    return refused(6, "throw", tree);
  }

  @Override
  public Void visitTry(TryTree tree, Element in) {
    return refused(6, "try", tree);
  }

  @Override
  public Void visitAssert(AssertTree tree, Element in) {
    return refused(6, "assert", tree);
  }

  @Override
  public Void visitSynchronized(SynchronizedTree tree, Element in) {
    return refused(6, "synchronized", tree);
  }

  @Override
  public Void visitLambdaExpression(LambdaExpressionTree tree, Element in) {
    return refused(2, "a lambda", tree);
  }

  @Override
  public Void visitMemberReference(MemberReferenceTree tree, Element in) {
    return refused(2, "a method reference", tree);
  }

  private Void refused(int number, String what, Tree tree) {
    rule(number, what + " is not used", false, tree);
    return null;
  }

  private void callsThatStandOpen() {
    int deepest = 0;
    for (Element method : calls.keySet()) {
      int depth = depth(method, new HashSet<>());
      Due.due("rules 8 and 11: calls that stand open at once in " + method, true, depth <= DEPTH);
      deepest = Math.max(deepest, depth);
    }
    System.out.println(calls.size() + " methods, at most " + deepest + " calls open at once");
  }

  /** A method that comes back to itself counts as too deep. */
  private int depth(Element method, Set<Element> open) {
    if (!open.add(method)) return DEPTH + 1;
    int deepest = 0;
    for (Element called : calls.getOrDefault(method, Set.of())) {
      if (deepest <= DEPTH) deepest = Math.max(deepest, depth(called, open));
    }
    open.remove(method);
    return deepest + 1;
  }
}
