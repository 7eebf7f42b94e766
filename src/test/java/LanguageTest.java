import com.sun.source.tree.ArrayTypeTree;
import com.sun.source.tree.AssignmentTree;
import com.sun.source.tree.BinaryTree;
import com.sun.source.tree.ClassTree;
import com.sun.source.tree.CompilationUnitTree;
import com.sun.source.tree.CompoundAssignmentTree;
import com.sun.source.tree.ExpressionTree;
import com.sun.source.tree.ForLoopTree;
import com.sun.source.tree.IdentifierTree;
import com.sun.source.tree.MethodInvocationTree;
import com.sun.source.tree.MethodTree;
import com.sun.source.tree.NewArrayTree;
import com.sun.source.tree.PrimitiveTypeTree;
import com.sun.source.tree.Tree;
import com.sun.source.tree.TypeCastTree;
import com.sun.source.tree.UnaryTree;
import com.sun.source.tree.VariableTree;
import com.sun.source.util.JavacTask;
import com.sun.source.util.SourcePositions;
import com.sun.source.util.TreeScanner;
import com.sun.source.util.Trees;
import java.nio.file.Path;
import java.util.EnumSet;
import java.util.HashMap;
import java.util.HashSet;
import java.util.List;
import java.util.Map;
import java.util.Set;
import javax.lang.model.element.Modifier;
import javax.lang.model.type.TypeKind;
import javax.tools.JavaCompiler;
import javax.tools.StandardJavaFileManager;
import javax.tools.ToolProvider;

// The rules of LANGUAGE.md that the program's text shows. Where a rule leaves a choice (where
// arrays are made, which loops there are), the test takes the narrowest way, as the program does.
public final class LanguageTest extends Checks {
  private static final String PROGRAM = "src/main/java/ScanDiagnose.java";
  private static final int DEEPEST = 6;

  // The program does without whatever is not named here: so rules 2, 3 and 6 need no list of all
  // that they forbid.
  private static final Set<Tree.Kind> ALLOWED = EnumSet.of(
      Tree.Kind.COMPILATION_UNIT, Tree.Kind.CLASS, Tree.Kind.METHOD, Tree.Kind.VARIABLE,
      Tree.Kind.MODIFIERS, Tree.Kind.PRIMITIVE_TYPE, Tree.Kind.ARRAY_TYPE, Tree.Kind.NEW_ARRAY,
      Tree.Kind.BLOCK, Tree.Kind.EXPRESSION_STATEMENT, Tree.Kind.IF, Tree.Kind.FOR_LOOP,
      Tree.Kind.SWITCH, Tree.Kind.CASE, Tree.Kind.BREAK, Tree.Kind.CONTINUE, Tree.Kind.RETURN,
      Tree.Kind.LABELED_STATEMENT, Tree.Kind.EMPTY_STATEMENT, Tree.Kind.IDENTIFIER,
      Tree.Kind.INT_LITERAL, Tree.Kind.LONG_LITERAL, Tree.Kind.CHAR_LITERAL,
      Tree.Kind.BOOLEAN_LITERAL, Tree.Kind.PARENTHESIZED, Tree.Kind.CONDITIONAL_EXPRESSION,
      Tree.Kind.METHOD_INVOCATION, Tree.Kind.ARRAY_ACCESS, Tree.Kind.TYPE_CAST);

  private static final Set<Tree.Kind> STEPS = EnumSet.of(
      Tree.Kind.PREFIX_INCREMENT, Tree.Kind.PREFIX_DECREMENT,
      Tree.Kind.POSTFIX_INCREMENT, Tree.Kind.POSTFIX_DECREMENT);

  private static final Set<TypeKind> NUMBERS = EnumSet.of(
      TypeKind.INT, TypeKind.LONG, TypeKind.SHORT, TypeKind.BYTE, TypeKind.CHAR, TypeKind.BOOLEAN);

  private final CompilationUnitTree unit;
  private final SourcePositions positions;
  private final Set<String> constants = new HashSet<>();
  private final Set<Tree> madeWithTheObject = new HashSet<>();
  private final Map<String, Set<String>> calls = new HashMap<>();

  private LanguageTest(CompilationUnitTree unit, SourcePositions positions) {
    this.unit = unit;
    this.positions = positions;
  }

  private long lineOf(long position) {
    return unit.getLineMap().getLineNumber(position);
  }

  private String at(Tree tree) {
    return " (line " + lineOf(positions.getStartPosition(unit, tree)) + ")";
  }

  private static boolean isNumber(Tree type) {
    return type instanceof PrimitiveTypeTree primitive
        && NUMBERS.contains(primitive.getPrimitiveTypeKind());
  }

  private static boolean isArray(Tree type) {
    return type instanceof ArrayTypeTree array && isNumber(array.getType());
  }

  private ClassTree onlyClass() {
    must(unit.getPackage() == null, "rule 1: no package");
    must(unit.getImports().isEmpty(), "rule 3: nothing is imported");
    must(unit.getTypeDecls().size() == 1, "rule 1: one class");
    return (ClassTree) unit.getTypeDecls().get(0);
  }

  private void checkField(VariableTree field) {
    Set<Modifier> flags = field.getModifiers().getFlags();
    if (flags.contains(Modifier.STATIC)) {
      constants.add(field.getName().toString());
      must(new CallsIn().in(field).isEmpty(), "rule 5: a compile-time constant" + at(field));
    } else if (isArray(field.getType())) {
      must(flags.contains(Modifier.FINAL), "rule 4: an array field is not set again" + at(field));
      must(field.getInitializer() instanceof NewArrayTree, "rule 4: made at once" + at(field));
      madeWithTheObject.add(field.getInitializer());
    }
  }

  private void checkMethod(MethodTree method) {
    must(method.getParameters().size() <= 7, "rule 10: at most seven parameters" + at(method));
    must(!isArray(method.getReturnType()), "rule 4: an array is never answered" + at(method));
    long first = lineOf(positions.getStartPosition(unit, method));
    long last = lineOf(positions.getEndPosition(unit, method));
    must(last - first < 60, "rule 10: methods stay short" + at(method));
    String name = method.getName().toString();
    must(calls.put(name, new CallsIn().in(method)) == null, "one " + name + " alone");
  }

  /** How deep the calls go from this method; one past what is allowed is deep enough to know. */
  private int depth(String method, int above) {
    if (above > DEEPEST) return above;
    int deepest = above + 1;
    for (String called : calls.getOrDefault(method, Set.of())) {
      deepest = Math.max(deepest, depth(called, above + 1));
    }
    return deepest;
  }

  private void check() {
    ClassTree program = onlyClass();
    must(program.getSimpleName().contentEquals("ScanDiagnose"), "rule 1: the document's class");
    int fields = 0;
    for (Tree member : program.getMembers()) {
      must(member.getKind() != Tree.Kind.CLASS, "rule 1: no nested class" + at(member));
      must(member.getKind() != Tree.Kind.BLOCK, "rule 5: no initialiser" + at(member));
      if (member instanceof MethodTree method) checkMethod(method);
      if (member instanceof VariableTree field) {
        checkField(field);
        if (!field.getModifiers().getFlags().contains(Modifier.STATIC)) fields++;
      }
    }
    must(fields <= 40, "rule 10: at most some forty fields");
    for (String method : calls.keySet()) {
      must(depth(method, 0) <= DEEPEST, "rules 8 and 10: " + method + " calls at most six deep");
    }
    new EveryTree().scan(unit, null);
  }

  /** The names of the methods that are called somewhere inside. */
  private static final class CallsIn extends TreeScanner<Void, Set<String>> {
    Set<String> in(Tree tree) {
      Set<String> names = new HashSet<>();
      scan(tree, names);
      return names;
    }

    Set<String> in(List<? extends Tree> trees) {
      Set<String> names = new HashSet<>();
      scan(trees, names);
      return names;
    }

    @Override
    public Void visitMethodInvocation(MethodInvocationTree call, Set<String> names) {
      names.add(call.getMethodSelect().toString());
      return super.visitMethodInvocation(call, names);
    }
  }

  private final class EveryTree extends TreeScanner<Void, Void> {
    @Override
    public Void scan(Tree tree, Void nothing) {
      if (tree != null) {
        Class<? extends Tree> form = tree.getKind().asInterface();
        boolean operator = form == BinaryTree.class || form == UnaryTree.class
            || tree.getKind().name().endsWith("ASSIGNMENT");
        must(operator || ALLOWED.contains(tree.getKind()),
            "the program does without " + tree.getKind() + at(tree));
      }
      return super.scan(tree, nothing);
    }

    @Override
    public Void visitVariable(VariableTree variable, Void nothing) {
      Tree type = variable.getType();
      must(isNumber(type) || isArray(type), "rule 2: a number or numbers" + at(variable));
      return super.visitVariable(variable, nothing);
    }

    @Override
    public Void visitTypeCast(TypeCastTree cast, Void nothing) {
      must(isNumber(cast.getType()), "rule 6: a cast to a number type" + at(cast));
      return super.visitTypeCast(cast, nothing);
    }

    @Override
    public Void visitNewArray(NewArrayTree array, Void nothing) {
      must(madeWithTheObject.contains(array), "rule 4: made in a field's initialiser" + at(array));
      must(array.getInitializers() == null, "rule 4: made with a length" + at(array));
      must(array.getDimensions().size() == 1, "rule 2: one-dimensional" + at(array));
      for (ExpressionTree length : array.getDimensions()) {
        boolean literal = length.getKind() == Tree.Kind.INT_LITERAL;
        must(literal || constants.contains(length.toString()),
            "rule 4: the length is a literal or a constant" + at(array));
      }
      return super.visitNewArray(array, nothing);
    }

    @Override
    public Void visitMethodInvocation(MethodInvocationTree call, Void nothing) {
      must(calls.containsKey(call.getMethodSelect().toString()),
          "rule 3: a method of the program's own" + at(call));
      must(new CallsIn().in(call.getArguments()).isEmpty(),
          "rule 10: no call in the arguments of another" + at(call));
      return super.visitMethodInvocation(call, nothing);
    }

    @Override
    public Void visitForLoop(ForLoopTree loop, Void nothing) {
      must(isCounted(loop), "rule 8: a counter against a bound" + at(loop));
      return super.visitForLoop(loop, nothing);
    }
  }

  /** for (int i = ..; i < bound; i++), and nothing in the loop sets i. */
  private static boolean isCounted(ForLoopTree loop) {
    if (loop.getInitializer().size() != 1 || loop.getUpdate().size() != 1) return false;
    if (!(loop.getInitializer().get(0) instanceof VariableTree counter)) return false;
    if (!(loop.getCondition() instanceof BinaryTree condition)) return false;
    String name = counter.getName().toString();
    return condition.getKind() == Tree.Kind.LESS_THAN
        && condition.getLeftOperand().toString().equals(name)
        && new CallsIn().in(condition).isEmpty()
        && loop.getUpdate().get(0).toString().equals(name + "++;")
        && !sets(loop.getStatement(), name);
  }

  private static boolean sets(Tree body, String name) {
    boolean[] found = new boolean[1];
    new TreeScanner<Void, Void>() {
      @Override
      public Void scan(Tree tree, Void nothing) {
        if (tree != null && setIn(tree).equals(name)) found[0] = true;
        return super.scan(tree, nothing);
      }
    }.scan(body, null);
    return found[0];
  }

  /** The name that this tree sets, if it sets one. */
  private static String setIn(Tree tree) {
    Tree target = null;
    if (tree instanceof AssignmentTree set) target = set.getVariable();
    if (tree instanceof CompoundAssignmentTree set) target = set.getVariable();
    if (STEPS.contains(tree.getKind())) target = ((UnaryTree) tree).getExpression();
    return target instanceof IdentifierTree ? target.toString() : "";
  }

  public static void main(String[] args) throws Exception {
    says("LANGUAGE.md");
    JavaCompiler compiler = ToolProvider.getSystemJavaCompiler();
    try (StandardJavaFileManager files = compiler.getStandardFileManager(null, null, null)) {
      JavacTask task = (JavacTask) compiler.getTask(
          null, files, null, null, null, files.getJavaFileObjects(Path.of(PROGRAM)));
      SourcePositions positions = Trees.instance(task).getSourcePositions();
      for (CompilationUnitTree unit : task.parse()) new LanguageTest(unit, positions).check();
    }
    end();
  }
}
