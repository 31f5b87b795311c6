import com.sun.source.tree.AssertTree;
import com.sun.source.tree.BinaryTree;
import com.sun.source.tree.ClassTree;
import com.sun.source.tree.CompilationUnitTree;
import com.sun.source.tree.LambdaExpressionTree;
import com.sun.source.tree.LineMap;
import com.sun.source.tree.LiteralTree;
import com.sun.source.tree.MemberReferenceTree;
import com.sun.source.tree.MethodInvocationTree;
import com.sun.source.tree.MethodTree;
import com.sun.source.tree.NewClassTree;
import com.sun.source.tree.SynchronizedTree;
import com.sun.source.tree.ThrowTree;
import com.sun.source.tree.Tree;
import com.sun.source.tree.TryTree;
import com.sun.source.util.JavacTask;
import com.sun.source.util.SourcePositions;
import com.sun.source.util.TreePathScanner;
import com.sun.source.util.Trees;
import java.io.IOException;
import java.nio.file.Files;
import java.nio.file.Path;
import java.util.ArrayDeque;
import java.util.Deque;
import java.util.HashMap;
import java.util.List;
import java.util.Map;
import java.util.Set;
import java.util.TreeSet;
import javax.lang.model.element.Element;
import javax.lang.model.element.ElementKind;
import javax.lang.model.element.ExecutableElement;
import javax.lang.model.element.Modifier;
import javax.lang.model.element.TypeElement;
import javax.lang.model.util.ElementFilter;
import javax.tools.JavaCompiler;
import javax.tools.StandardJavaFileManager;
import javax.tools.ToolProvider;

/** The class keeps to those rules of LANGUAGE.md that can be counted. */
public final class LanguageTest {
  private static final Path SOURCE = Path.of("src", "main", "java", "SeamarkNet.java");
  private static final int MOST_CLASSES = 12;
  private static final int MOST_FIELDS = 20;
  private static final int MOST_PARAMETERS = 7;
  private static final int MOST_LINES = 60;
  private static final int MOST_DEEP = 8;

  /** Of rule 4, what the class uses; whoever needs more of that rule adds it here. */
  private static final Set<String> LIBRARY = Set.of(
      "java.util.Arrays.fill", "java.lang.System.arraycopy", "java.lang.Math.min",
      "java.lang.Object.<init>");
  private static final Set<String> EXCEPTIONS = Set.of(
      "IllegalStateException", "IllegalArgumentException", "IndexOutOfBoundsException",
      "ArithmeticException", "UnsupportedOperationException", "NoSuchElementException",
      "RuntimeException");

  public static void main(String[] args) throws IOException {
    Check check = new Check("LanguageTest");
    JavaCompiler compiler = ToolProvider.getSystemJavaCompiler();
    StandardJavaFileManager files = compiler.getStandardFileManager(null, null, null);
    JavacTask task = (JavacTask) compiler.getTask(null, files, null,
        List.of("-proc:none"), null, files.getJavaFileObjects(SOURCE));
    Iterable<? extends CompilationUnitTree> units = task.parse();
    task.analyze();
    for (CompilationUnitTree unit : units) {
      Reader reader = new Reader(check, Trees.instance(task), unit);
      reader.scan(unit, null);
      reader.end();
    }
    checkSigns(check);
    check.end();
  }

  /** Rule 4: the signs of constants are 1 to 127; so is the whole file. */
  private static void checkSigns(Check check) throws IOException {
    String text = Files.readString(SOURCE);
    check.same("rule 4: other signs", text.chars().filter(sign -> sign > 127).count(), 0L);
  }

  /** Reads the file once, and then follows the calls. */
  private static final class Reader extends TreePathScanner<Void, Void> {
    private final Check check;
    private final Trees trees;
    private final CompilationUnitTree unit;
    private final Map<String, Set<String>> calls = new HashMap<>();
    private final Map<String, Integer> depths = new HashMap<>();
    private final Deque<String> open = new ArrayDeque<>();
    private String method = "";
    private boolean isMaking;
    private int classes;

    Reader(Check check, Trees trees, CompilationUnitTree unit) {
      this.check = check;
      this.trees = trees;
      this.unit = unit;
    }

    void end() {
      check.same("rule 11: twelve classes at most", classes <= MOST_CLASSES, true);
      int deepest = 0;
      for (String begin : calls.keySet()) {
        deepest = Math.max(deepest, depth(begin));
      }
      check.same("rule 11: eight deep at most", deepest + " deep, " + (deepest <= MOST_DEEP),
          deepest + " deep, true");
    }

    private int depth(String at) {
      if (depths.containsKey(at)) {
        return depths.get(at);
      }
      check.same("rule 8: calls itself: " + at, open.contains(at), false);
      if (open.contains(at)) {
        return 0;
      }
      open.push(at);
      int below = 0;
      for (String next : calls.getOrDefault(at, Set.of())) {
        below = Math.max(below, depth(next));
      }
      open.pop();
      depths.put(at, below + 1);
      return below + 1;
    }

    @Override
    public Void visitClass(ClassTree tree, Void none) {
      classes++;
      TypeElement type = (TypeElement) trees.getElement(getCurrentPath());
      Set<Modifier> modifiers = type.getModifiers();
      boolean isInside = type.getEnclosingElement().getKind() != ElementKind.PACKAGE;
      check.same("rule 2: " + type + " is static, if inside",
          modifiers.contains(Modifier.STATIC), isInside);
      check.same("rule 1: " + type + " is shown, if not inside",
          modifiers.contains(Modifier.PUBLIC) || modifiers.contains(Modifier.PROTECTED), !isInside);
      int fields = 0;
      for (Element field : ElementFilter.fieldsIn(type.getEnclosedElements())) {
        boolean isStatic = field.getModifiers().contains(Modifier.STATIC);
        fields += isStatic ? 0 : 1;
        check.same("rule 5: " + field + " is final, if static",
            !isStatic || field.getModifiers().contains(Modifier.FINAL), true);
      }
      check.same("rule 11: twenty fields at most: " + type, fields <= MOST_FIELDS, true);
      return super.visitClass(tree, none);
    }

    @Override
    public Void visitMethod(MethodTree tree, Void none) {
      String outer = method;
      Element element = trees.getElement(getCurrentPath());
      method = nameOf(element);
      isMaking = element.getKind() == ElementKind.CONSTRUCTOR;
      calls.put(method, new TreeSet<>());
      check.same("rule 11: seven parameters at most: " + method,
          tree.getParameters().size() <= MOST_PARAMETERS, true);
      check.same("rule 11: short: " + method, linesOf(tree) <= MOST_LINES, true);
      super.visitMethod(tree, none);
      method = outer;
      return null;
    }

    private long linesOf(Tree tree) {
      SourcePositions at = trees.getSourcePositions();
      LineMap lines = unit.getLineMap();
      return lines.getLineNumber(at.getEndPosition(unit, tree))
          - lines.getLineNumber(at.getStartPosition(unit, tree)) + 1;
    }

    @Override
    public Void visitMethodInvocation(MethodInvocationTree tree, Void none) {
      called(trees.getElement(getCurrentPath()));
      return super.visitMethodInvocation(tree, none);
    }

    @Override
    public Void visitNewClass(NewClassTree tree, Void none) {
      check.same("rule 2: no class without a name", tree.getClassBody() == null, true);
      Element made = trees.getElement(getCurrentPath());
      if (!EXCEPTIONS.contains(made.getEnclosingElement().getSimpleName().toString())) {
        called(made);
      }
      return super.visitNewClass(tree, none);
    }

    private void called(Element element) {
      String name = nameOf(element);
      String owner = element.getEnclosingElement().toString();
      if (owner.startsWith("SeamarkNet")) {
        calls.computeIfAbsent(method, key -> new TreeSet<>()).add(name);
      } else {
        String plain = owner + "." + element.getSimpleName();
        check.same("rule 4: " + plain, LIBRARY.contains(plain), true);
      }
    }

    private static String nameOf(Element element) {
      return element.getEnclosingElement() + "." + (ExecutableElement) element;
    }

    @Override
    public Void visitThrow(ThrowTree tree, Void none) {
      boolean isNew = tree.getExpression() instanceof NewClassTree;
      check.same("rule 6: throw new E(..): " + tree, isNew, true);
      if (isNew) {
        NewClassTree made = (NewClassTree) tree.getExpression();
        check.same("rule 6: " + tree, EXCEPTIONS.contains(made.getIdentifier().toString()), true);
        for (Tree argument : made.getArguments()) {
          check.same("rule 6: a written text: " + tree, argument instanceof LiteralTree, true);
        }
      }
      check.same("rule 6: no throw in a constructor: " + method, isMaking, false);
      return super.visitThrow(tree, none);
    }

    @Override
    public Void visitBinary(BinaryTree tree, Void none) {
      boolean isText = tree.getKind() == Tree.Kind.PLUS
          && trees.getTypeMirror(getCurrentPath()).toString().equals("java.lang.String");
      check.same("rule 10: texts are joined by StringBuilder: " + tree, isText, false);
      return super.visitBinary(tree, none);
    }

    // The class catches nothing, as no method of it needs to.
    @Override
    public Void visitTry(TryTree tree, Void none) {
      return refuse("6", tree);
    }

    @Override
    public Void visitAssert(AssertTree tree, Void none) {
      return refuse("6", tree);
    }

    @Override
    public Void visitSynchronized(SynchronizedTree tree, Void none) {
      return refuse("6", tree);
    }

    @Override
    public Void visitLambdaExpression(LambdaExpressionTree tree, Void none) {
      return refuse("2", tree);
    }

    @Override
    public Void visitMemberReference(MemberReferenceTree tree, Void none) {
      return refuse("2", tree);
    }

    private Void refuse(String rule, Tree tree) {
      check.same("rule " + rule, tree.toString(), "not there");
      return null;
    }
  }
}
