import com.sun.source.tree.ClassTree;
import com.sun.source.tree.CompilationUnitTree;
import com.sun.source.tree.IdentifierTree;
import com.sun.source.tree.MemberSelectTree;
import com.sun.source.tree.MethodInvocationTree;
import com.sun.source.tree.MethodTree;
import com.sun.source.tree.NewArrayTree;
import com.sun.source.tree.PrimitiveTypeTree;
import com.sun.source.tree.Tree;
import com.sun.source.tree.VariableTree;
import com.sun.source.util.JavacTask;
import com.sun.source.util.SourcePositions;
import com.sun.source.util.TreeScanner;
import com.sun.source.util.Trees;
import java.io.IOException;
import java.nio.file.Path;
import java.util.ArrayList;
import java.util.EnumSet;
import java.util.HashMap;
import java.util.HashSet;
import java.util.List;
import java.util.Map;
import java.util.Set;
import java.util.TreeSet;
import javax.lang.model.element.Modifier;
import javax.lang.model.type.TypeKind;
import javax.tools.JavaCompiler;
import javax.tools.StandardJavaFileManager;
import javax.tools.ToolProvider;

/** Looks at the source for the rules of LANGUAGE.md that can be read off it. Runs in the project's folder. */
public final class LanguageRulesTest extends TreeScanner<Void, Void> {
  private static final Path SOURCE = Path.of("src/main/java/TexMacroExpander.java");
  private static final Set<String> FACE = Set.of("feed", "run", "status", "expansionsUsed", "outputLength", "outputToken",
    "catcode", "groupDepth", "condDepth", "nameCount", "nameLength", "nameChar", "meaningKind", "meaningValue",
    "macroTextLength", "macroTextToken");
  private static final Set<Tree.Kind> FORBIDDEN = EnumSet.of(Tree.Kind.THROW, Tree.Kind.TRY, Tree.Kind.SYNCHRONIZED,
    Tree.Kind.ASSERT, Tree.Kind.INSTANCE_OF, Tree.Kind.LAMBDA_EXPRESSION, Tree.Kind.MEMBER_REFERENCE, Tree.Kind.NEW_CLASS,
    Tree.Kind.NULL_LITERAL, Tree.Kind.STRING_LITERAL, Tree.Kind.FLOAT_LITERAL, Tree.Kind.DOUBLE_LITERAL, Tree.Kind.IMPORT,
    Tree.Kind.PACKAGE, Tree.Kind.INTERFACE, Tree.Kind.ENUM, Tree.Kind.RECORD, Tree.Kind.ANNOTATION,
    Tree.Kind.PARAMETERIZED_TYPE);

  private final CompilationUnitTree unit;
  private final SourcePositions positions;
  private final Map<String, Set<String>> calls = new HashMap<>();
  private final Set<String> publicNames = new TreeSet<>();
  private final Set<String> privateNames = new TreeSet<>();
  private String method = "(fields)";
  private boolean inMethod = false;
  private int classes = 0;
  private int fields = 0;

  private LanguageRulesTest(CompilationUnitTree unit, SourcePositions positions) {
    this.unit = unit;
    this.positions = positions;
  }

  public static void main(String[] args) throws IOException {
    JavaCompiler compiler = ToolProvider.getSystemJavaCompiler();
    try (StandardJavaFileManager files = compiler.getStandardFileManager(null, null, null)) {
      JavacTask task = (JavacTask) compiler.getTask(null, files, null, null, null, files.getJavaFileObjects(SOURCE));
      CompilationUnitTree unit = task.parse().iterator().next();
      LanguageRulesTest rules = new LanguageRulesTest(unit, Trees.instance(task).getSourcePositions());
      rules.scan(unit, null);
      rules.compareNames();
      rules.followCalls();
    }
    Check.end();
  }

  private void rule(int number, String what, boolean kept) {
    Check.same("rule " + number + ", " + what + " in " + method, kept, true);
  }

  @Override
  public Void scan(Tree tree, Void p) {
    if (tree != null) {
      rule(6, "a " + tree.getKind(), !FORBIDDEN.contains(tree.getKind()));
    }
    return super.scan(tree, p);
  }

  @Override
  public Void visitClass(ClassTree tree, Void p) {
    classes++;
    rule(1, "one class", classes == 1);
    rule(1, "public and final", tree.getModifiers().getFlags().equals(EnumSet.of(Modifier.PUBLIC, Modifier.FINAL)));
    return super.visitClass(tree, p);
  }

  @Override
  public Void visitMethod(MethodTree tree, Void p) {
    method = tree.getName().toString();
    inMethod = true;
    boolean isConstructor = method.equals("<init>");
    Set<Modifier> flags = tree.getModifiers().getFlags();
    rule(1, "public or private", flags.contains(Modifier.PUBLIC) || flags.contains(Modifier.PRIVATE));
    if (!isConstructor) {
      (flags.contains(Modifier.PUBLIC) ? publicNames : privateNames).add(method);
    }
    rule(2, "an array answered", tree.getReturnType() == null || tree.getReturnType().getKind() == Tree.Kind.PRIMITIVE_TYPE);
    rule(10, "more than seven parameters", tree.getParameters().size() <= 7);
    rule(10, "more than sixty lines", lines(tree) <= 60);
    calls.put(method, new HashSet<>());
    super.visitMethod(tree, p);
    method = "(fields)";
    inMethod = false;
    return null;
  }

  private long lines(Tree tree) {
    long start = unit.getLineMap().getLineNumber(positions.getStartPosition(unit, tree));
    long end = unit.getLineMap().getLineNumber(positions.getEndPosition(unit, tree));
    return end - start + 1;
  }

  @Override
  public Void visitVariable(VariableTree tree, Void p) {
    if (!inMethod) {
      Set<Modifier> flags = tree.getModifiers().getFlags();
      boolean isStatic = flags.contains(Modifier.STATIC);
      fields += isStatic ? 0 : 1;
      rule(10, "more than forty fields", fields <= 40);
      rule(1, "a field seen from outside: " + tree.getName(), flags.contains(Modifier.PRIVATE)
        || flags.contains(Modifier.PUBLIC) && isStatic);
      rule(5, "a static field that is no constant: " + tree.getName(), !isStatic
        || flags.contains(Modifier.FINAL) && tree.getType().toString().matches("int|long"));
    }
    rule(2, "the type of " + tree.getName(), tree.getType().toString()
      .matches("(int|long|short|byte|char|boolean)(\\[\\])?"));
    return super.visitVariable(tree, p);
  }

  @Override
  public Void visitPrimitiveType(PrimitiveTypeTree tree, Void p) {
    TypeKind kind = tree.getPrimitiveTypeKind();
    rule(2, "float or double", kind != TypeKind.FLOAT && kind != TypeKind.DOUBLE);
    return super.visitPrimitiveType(tree, p);
  }

  @Override
  public Void visitNewArray(NewArrayTree tree, Void p) {
    rule(4, "an array made in a method", !inMethod);
    rule(4, "an array without one length", tree.getDimensions().size() == 1 && tree.getInitializers() == null);
    return super.visitNewArray(tree, p);
  }

  @Override
  public Void visitMemberSelect(MemberSelectTree tree, Void p) {
    rule(3, "a member of another class: " + tree, tree.getExpression().toString().equals("this"));
    return super.visitMemberSelect(tree, p);
  }

  @Override
  public Void visitMethodInvocation(MethodInvocationTree tree, Void p) {
    String called = tree.getMethodSelect().toString();
    if (tree.getMethodSelect() instanceof IdentifierTree && !called.equals("super")) {
      calls.get(method).add(called);
    }
    for (Tree argument : tree.getArguments()) {
      rule(10, "a call inside the arguments of " + called, !holdsCall(argument));
    }
    return super.visitMethodInvocation(tree, p);
  }

  private static boolean holdsCall(Tree tree) {
    boolean[] found = {false};
    new TreeScanner<Void, Void>() {
      @Override
      public Void visitMethodInvocation(MethodInvocationTree call, Void p) {
        found[0] = true;
        return null;
      }
    }.scan(tree, null);
    return found[0];
  }

  private void compareNames() {
    Check.same("rule 1, the public methods", publicNames.toString(), new TreeSet<>(FACE).toString());
    for (String name : privateNames) {
      Check.same("rule 1, the private method " + name + " has a public name", publicNames.contains(name), false);
    }
  }

  private void followCalls() {
    for (String name : calls.keySet()) {
      for (String called : calls.get(name)) {
        Check.same("rule 3, " + called + " is a method of the class", calls.containsKey(called), true);
      }
    }
    for (String name : calls.keySet()) {
      follow(List.of(name));
    }
  }

  private void follow(List<String> path) {
    String last = path.get(path.size() - 1);
    Check.same("rule 10, the calls " + path + " go at most six deep", path.size() <= 6, true);
    for (String called : calls.getOrDefault(last, Set.of())) {
      Check.same("rule 8, recursion of " + called + " through " + path, path.contains(called), false);
      if (!path.contains(called) && path.size() <= 6) {
        List<String> longer = new ArrayList<>(path);
        longer.add(called);
        follow(longer);
      }
    }
  }
}
