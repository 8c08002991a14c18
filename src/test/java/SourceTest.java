import com.sun.source.tree.AssertTree;
import com.sun.source.tree.BinaryTree;
import com.sun.source.tree.ClassTree;
import com.sun.source.tree.CompilationUnitTree;
import com.sun.source.tree.DoWhileLoopTree;
import com.sun.source.tree.EnhancedForLoopTree;
import com.sun.source.tree.ForLoopTree;
import com.sun.source.tree.ImportTree;
import com.sun.source.tree.LambdaExpressionTree;
import com.sun.source.tree.MemberReferenceTree;
import com.sun.source.tree.MethodInvocationTree;
import com.sun.source.tree.MethodTree;
import com.sun.source.tree.NewArrayTree;
import com.sun.source.tree.NewClassTree;
import com.sun.source.tree.SynchronizedTree;
import com.sun.source.tree.ThrowTree;
import com.sun.source.tree.Tree;
import com.sun.source.tree.TryTree;
import com.sun.source.tree.VariableTree;
import com.sun.source.tree.WhileLoopTree;
import com.sun.source.util.JavacTask;
import com.sun.source.util.TreePath;
import com.sun.source.util.TreePathScanner;
import com.sun.source.util.Trees;
import java.io.IOException;
import java.nio.file.Files;
import java.nio.file.Path;
import java.util.ArrayList;
import java.util.HashMap;
import java.util.LinkedHashSet;
import java.util.List;
import java.util.Map;
import java.util.Set;
import javax.lang.model.element.Element;
import javax.lang.model.element.ElementKind;
import javax.lang.model.element.ExecutableElement;
import javax.lang.model.element.Modifier;
import javax.lang.model.element.TypeElement;
import javax.lang.model.type.ArrayType;
import javax.lang.model.type.TypeKind;
import javax.lang.model.type.TypeMirror;
import javax.tools.JavaCompiler;
import javax.tools.StandardJavaFileManager;
import javax.tools.ToolProvider;

/** The rules of ../shared/LANGUAGE.md that the compiler's own tree of the source tells. */
public final class SourceTest {
  private static final Path SOURCE = Path.of("src/main/java/SettledDots.java");
  private static final int LINES_AT_MOST = 60;
  private static final int DEPTH_AT_MOST = 8;
  /** What rule 4 has and the class needs; a call of anything else is looked up there first. */
  private static final Set<String> LIBRARY = Set.of("java.util.Arrays.fill", "java.lang.System.arraycopy",
      "java.lang.Math.abs", "java.lang.Math.max", "java.lang.Math.min", "java.lang.Math.floorMod",
      "java.lang.String.length", "java.lang.String.charAt");
  private static final Check CHECK = new Check("SourceTest");

  public static void main(String[] args) throws IOException {
    JavaCompiler compiler = ToolProvider.getSystemJavaCompiler();
    try (StandardJavaFileManager files = compiler.getStandardFileManager(null, null, null)) {
      JavacTask task = (JavacTask) compiler.getTask(null, files, null, List.of("-proc:none"), null,
          files.getJavaFileObjects(SOURCE));
      CompilationUnitTree unit = task.parse().iterator().next();
      task.analyze();
      Scan scan = new Scan(Trees.instance(task), unit);
      scan.scan(unit, null);
      depths(scan.calls);
    }
    signs();
    CHECK.close();
  }

  private static void holds(String rule, boolean held) {
    CHECK.due(rule, held, true);
  }

  /** Rule 11: calls go at most eight deep; rule 8: a method in its own chain would be recursion. */
  private static void depths(Map<String, Set<String>> calls) {
    Map<String, List<String>> longest = new HashMap<>();
    for (String method : calls.keySet()) {
      List<String> chain = chainFrom(method, calls, longest, new LinkedHashSet<>());
      holds("rule 11: eight calls deep at most: " + chain, chain.size() <= DEPTH_AT_MOST);
    }
    holds("rule 11: the chain of picture() is known", longest.get("SettledDots.picture()").size() > 4);
  }

  private static List<String> chainFrom(String method, Map<String, Set<String>> calls,
      Map<String, List<String>> longest, Set<String> open) {
    if (!open.add(method)) {
      holds("rule 8: no recursion: " + open + " calls " + method, false);
      return List.of();
    }
    if (!longest.containsKey(method)) {
      List<String> deepest = List.of();
      for (String callee : calls.getOrDefault(method, Set.of())) {
        List<String> chain = chainFrom(callee, calls, longest, open);
        deepest = chain.size() > deepest.size() ? chain : deepest;
      }
      List<String> whole = new ArrayList<>(List.of(method));
      whole.addAll(deepest);
      longest.put(method, whole);
    }
    open.remove(method);
    return longest.get(method);
  }

  private static void signs() throws IOException {
    String source = Files.readString(SOURCE);
    holds("rule 4: signs are 1 to 127", source.chars().allMatch(c -> c >= 1 && c <= 127));
    String[] lines = source.split("\n");
    for (int i = 0; i < lines.length; i++) {
      holds("line " + (i + 1) + " has 110 signs at most", lines[i].length() <= 110);
    }
  }

  /** Goes through the source; notes which method of the class calls which. */
  private static final class Scan extends TreePathScanner<Void, Void> {
    final Map<String, Set<String>> calls = new HashMap<>();
    private final Trees trees;
    private final CompilationUnitTree unit;
    private String method = "";
    private boolean inConstructor = false;
    private boolean inMethod = false;

    Scan(Trees trees, CompilationUnitTree unit) {
      this.trees = trees;
      this.unit = unit;
    }

    private long line(long position) {
      return unit.getLineMap().getLineNumber(position);
    }

    private long firstLine(Tree tree) {
      return line(trees.getSourcePositions().getStartPosition(unit, tree));
    }

    private Element element() {
      return trees.getElement(getCurrentPath());
    }

    private static String owner(Element e) {
      return ((TypeElement) e.getEnclosingElement()).getQualifiedName().toString();
    }

    private static boolean isOwn(String owner) {
      return owner.equals("SettledDots") || owner.startsWith("SettledDots.");
    }

    private void never(String rule, Tree tree) {
      holds(rule + ", line " + firstLine(tree), false);
    }

    @Override
    public Void visitImport(ImportTree tree, Void none) {
      holds("rule 4: imports " + tree.getQualifiedIdentifier(), !tree.isStatic()
          && tree.getQualifiedIdentifier().toString().equals("java.util.Arrays"));
      return super.visitImport(tree, none);
    }

    @Override
    public Void visitClass(ClassTree tree, Void none) {
      holds("rule 2: no class inside a method, line " + firstLine(tree), !inMethod);
      for (Tree member : tree.getMembers()) {
        holds("rules 2, 5: no block among the members of " + tree.getSimpleName(),
            member.getKind() != Tree.Kind.BLOCK);
      }
      return super.visitClass(tree, none);
    }

    @Override
    public Void visitMethod(MethodTree tree, Void none) {
      Element e = element();
      method = owner(e) + "." + e;
      inConstructor = e.getKind() == ElementKind.CONSTRUCTOR;
      inMethod = true;
      calls.putIfAbsent(method, new LinkedHashSet<>());
      long end = line(trees.getSourcePositions().getEndPosition(unit, tree));
      // A constructor that is not written has the class's own place, and no end.
      if (trees.getSourcePositions().getEndPosition(unit, tree) >= 0) {
        holds("rule 11: sixty lines at most: " + method, end - firstLine(tree) < LINES_AT_MOST);
      }
      holds("rule 11: seven parameters at most: " + method, tree.getParameters().size() <= 7);
      holds("rule 6: no throws at " + method, tree.getThrows().isEmpty());
      super.visitMethod(tree, none);
      method = "";
      inMethod = false;
      inConstructor = false;
      return null;
    }

    /** Rule 3, and a little less: no texts but constants and parameters, no doubles, no lists. */
    @Override
    public Void visitVariable(VariableTree tree, Void none) {
      TypeMirror type = element().asType();
      TypeMirror single = type instanceof ArrayType row ? row.getComponentType() : type;
      boolean isStatic = element().getModifiers().contains(Modifier.STATIC);
      holds("rule 3: the type of " + tree + ", line " + firstLine(tree),
          single.toString().matches("int|long|boolean") || isOwn(single.toString())
              || type.toString().equals("java.lang.String"));
      holds("rule 5: a static field is a constant: " + tree, !isStatic
          || element().getModifiers().contains(Modifier.FINAL)
              && type.toString().matches("int|long|boolean|char|java.lang.String"));
      return super.visitVariable(tree, none);
    }

    @Override
    public Void visitMethodInvocation(MethodInvocationTree tree, Void none) {
      Element e = element();
      if (e instanceof ExecutableElement && e.getKind() == ElementKind.METHOD) {
        String owner = owner(e);
        if (isOwn(owner)) {
          calls.computeIfAbsent(method, m -> new LinkedHashSet<>()).add(owner + "." + e);
          holds("rule 12: a constructor calls nothing, line " + firstLine(tree), !inConstructor);
        } else {
          String name = owner + "." + e.getSimpleName();
          holds("rule 4: " + name + " is in the library, line " + firstLine(tree),
              LIBRARY.contains(name));
          holds("rule 4: Arrays.fill is over numbers, line " + firstLine(tree),
              !name.endsWith(".fill") || !e.toString().contains("boolean")
                  && !e.toString().contains("Object"));
        }
      }
      return super.visitMethodInvocation(tree, none);
    }

    /** The room is one for all calls: what is made is made with the object. */
    @Override
    public Void visitNewClass(NewClassTree tree, Void none) {
      holds("rule 12: a call makes no object, line " + firstLine(tree), !inMethod || inConstructor);
      holds("rule 2: no class without a name, line " + firstLine(tree), tree.getClassBody() == null);
      holds("rule 3: makes an object of its own classes, line " + firstLine(tree),
          isOwn(owner(element()) + "."));
      return super.visitNewClass(tree, none);
    }

    @Override
    public Void visitNewArray(NewArrayTree tree, Void none) {
      holds("rule 12: a call makes no array, line " + firstLine(tree), !inMethod || inConstructor);
      holds("rule 7: a length is a constant, line " + firstLine(tree), tree.getDimensions().stream()
          .allMatch(d -> d.toString().matches("[A-Z_* ]+")));
      return super.visitNewArray(tree, none);
    }

    @Override
    public Void visitBinary(BinaryTree tree, Void none) {
      TypeMirror type = trees.getTypeMirror(getCurrentPath());
      holds("rule 10: no texts joined by +, line " + firstLine(tree),
          type.getKind() != TypeKind.DECLARED);
      return super.visitBinary(tree, none);
    }

    @Override
    public Void visitForLoop(ForLoopTree tree, Void none) {
      holds("rule 9: a loop has a condition, line " + firstLine(tree), tree.getCondition() != null);
      return super.visitForLoop(tree, none);
    }

    @Override
    public Void visitWhileLoop(WhileLoopTree tree, Void none) {
      holds("rule 9: a loop has a condition with a bound, line " + firstLine(tree),
          tree.getCondition().toString().contains(" < "));
      return super.visitWhileLoop(tree, none);
    }

    @Override
    public Void visitDoWhileLoop(DoWhileLoopTree tree, Void none) {
      holds("rule 9: a loop has a condition with a bound, line " + firstLine(tree),
          tree.getCondition().toString().contains(" < "));
      return super.visitDoWhileLoop(tree, none);
    }

    @Override
    public Void visitEnhancedForLoop(EnhancedForLoopTree tree, Void none) {
      holds("rule 12: a for over an array makes no iterator, line " + firstLine(tree),
          trees.getTypeMirror(new TreePath(getCurrentPath(), tree.getExpression())).getKind()
              == TypeKind.ARRAY);
      return super.visitEnhancedForLoop(tree, none);
    }

    @Override
    public Void visitLambdaExpression(LambdaExpressionTree tree, Void none) {
      never("rule 2: no lambda", tree);
      return super.visitLambdaExpression(tree, none);
    }

    @Override
    public Void visitMemberReference(MemberReferenceTree tree, Void none) {
      never("rule 2: no method reference", tree);
      return super.visitMemberReference(tree, none);
    }

    @Override
    public Void visitThrow(ThrowTree tree, Void none) {
      never("rule 6: no throw", tree);
      return super.visitThrow(tree, none);
    }

    @Override
    public Void visitTry(TryTree tree, Void none) {
      never("rule 6: no try", tree);
      return super.visitTry(tree, none);
    }

    @Override
    public Void visitSynchronized(SynchronizedTree tree, Void none) {
      never("rule 6: no synchronized", tree);
      return super.visitSynchronized(tree, none);
    }

    @Override
    public Void visitAssert(AssertTree tree, Void none) {
      never("rule 6: no assert", tree);
      return super.visitAssert(tree, none);
    }
  }
}
