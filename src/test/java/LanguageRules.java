import com.sun.source.tree.ArrayTypeTree;
import com.sun.source.tree.AssignmentTree;
import com.sun.source.tree.BinaryTree;
import com.sun.source.tree.BlockTree;
import com.sun.source.tree.ClassTree;
import com.sun.source.tree.CompilationUnitTree;
import com.sun.source.tree.CompoundAssignmentTree;
import com.sun.source.tree.DoWhileLoopTree;
import com.sun.source.tree.ExpressionTree;
import com.sun.source.tree.ForLoopTree;
import com.sun.source.tree.IdentifierTree;
import com.sun.source.tree.LineMap;
import com.sun.source.tree.LiteralTree;
import com.sun.source.tree.MemberSelectTree;
import com.sun.source.tree.MethodInvocationTree;
import com.sun.source.tree.MethodTree;
import com.sun.source.tree.NewArrayTree;
import com.sun.source.tree.PrimitiveTypeTree;
import com.sun.source.tree.Tree;
import com.sun.source.tree.TypeCastTree;
import com.sun.source.tree.UnaryTree;
import com.sun.source.tree.VariableTree;
import com.sun.source.tree.WhileLoopTree;
import com.sun.source.util.JavacTask;
import com.sun.source.util.SourcePositions;
import com.sun.source.util.TreeScanner;
import com.sun.source.util.Trees;
import java.io.IOException;
import java.net.URI;
import java.util.ArrayDeque;
import java.util.ArrayList;
import java.util.Deque;
import java.util.EnumMap;
import java.util.HashSet;
import java.util.List;
import java.util.Map;
import java.util.Set;
import java.util.TreeMap;
import java.util.TreeSet;
import javax.lang.model.element.Modifier;
import javax.lang.model.type.TypeKind;
import javax.tools.JavaFileObject;
import javax.tools.SimpleJavaFileObject;
import javax.tools.ToolProvider;

// Holds a source against the rules of LANGUAGE.md, as far as its syntax tree can show them.
// Rule 7 is not among them: that no call throws is for the tests that run the class.
// Arrays are held to what rule 4 calls easiest (all in the fields' initialisers).
final class LanguageRules extends TreeScanner<Void, Void> {
  private static final int MOST_PARAMETERS = 7;
  private static final int MOST_LINES = 60;
  private static final int MOST_DEPTH = 6;
  private static final int MOST_FIELDS = 40;
  private static final Map<Tree.Kind, Integer> RULED_OUT = ruledOut();

  private final CompilationUnitTree unit;
  private final SourcePositions positions;
  private final LineMap lines;
  private final List<String> faults = new ArrayList<>();
  private final Set<String> publicMethods = new TreeSet<>();
  private final Set<String> privateMethods = new TreeSet<>();
  private final Set<String> constants = new TreeSet<>();
  private final Set<String> arrays = new HashSet<>();
  private final Map<String, Set<String>> calls = new TreeMap<>();
  private boolean inClass = false;
  private String method = "";
  private int openCalls = 0;
  private int fields = 0;

  private LanguageRules(CompilationUnitTree unit, SourcePositions positions) {
    this.unit = unit;
    this.positions = positions;
    this.lines = unit.getLineMap();
  }

  // Each fault begins with the number of the rule that is broken.
  static List<String> faultsOf(String source) throws IOException {
    JavaFileObject file = new SimpleJavaFileObject(URI.create("string:///Source.java"), JavaFileObject.Kind.SOURCE) {
      @Override
      public CharSequence getCharContent(boolean ignoreEncodingErrors) {
        return source;
      }
    };
    JavacTask task = (JavacTask) ToolProvider.getSystemJavaCompiler()
        .getTask(null, null, null, List.of("--release", "17"), null, List.of(file));
    CompilationUnitTree unit = task.parse().iterator().next();
    LanguageRules rules = new LanguageRules(unit, Trees.instance(task).getSourcePositions());
    rules.scan(unit, null);
    rules.checkCalls();
    return rules.faults;
  }

  private static Map<Tree.Kind, Integer> ruledOut() {
    Map<Tree.Kind, Integer> rules = new EnumMap<>(Tree.Kind.class);
    rules.put(Tree.Kind.STRING_LITERAL, 2);
    rules.put(Tree.Kind.FLOAT_LITERAL, 2);
    rules.put(Tree.Kind.DOUBLE_LITERAL, 2);
    rules.put(Tree.Kind.ANNOTATION, 3);
    rules.put(Tree.Kind.NULL_LITERAL, 4);
    rules.put(Tree.Kind.NEW_CLASS, 4);
    rules.put(Tree.Kind.THROW, 6);
    rules.put(Tree.Kind.TRY, 6);
    rules.put(Tree.Kind.SYNCHRONIZED, 6);
    rules.put(Tree.Kind.ASSERT, 6);
    rules.put(Tree.Kind.INSTANCE_OF, 6);
    rules.put(Tree.Kind.LAMBDA_EXPRESSION, 6);
    rules.put(Tree.Kind.MEMBER_REFERENCE, 6);
    return rules;
  }

  private void tell(int rule, Tree at, String fault) {
    long line = lines.getLineNumber(positions.getStartPosition(unit, at));
    faults.add("rule " + rule + ": line " + line + ": " + fault);
  }

  @Override
  public Void scan(Tree tree, Void none) {
    if (tree != null && RULED_OUT.containsKey(tree.getKind())) {
      tell(RULED_OUT.get(tree.getKind()), tree, tree.getKind().toString());
    }
    return super.scan(tree, none);
  }

  // ---- the class and its members ----

  @Override
  public Void visitCompilationUnit(CompilationUnitTree tree, Void none) {
    if (tree.getPackage() != null || tree.getTypeDecls().size() != 1) {
      tell(1, tree, "not one class without a package line");
    }
    return super.visitCompilationUnit(tree, none);
  }

  @Override
  public Void visitClass(ClassTree tree, Void none) {
    if (inClass) {
      tell(1, tree, "a nested type");
      return null;
    }
    inClass = true;
    Set<Modifier> flags = tree.getModifiers().getFlags();
    if (tree.getKind() != Tree.Kind.CLASS || !flags.equals(Set.of(Modifier.PUBLIC, Modifier.FINAL))) {
      tell(1, tree, "not a public final class");
    }
    if (tree.getExtendsClause() != null || !tree.getImplementsClause().isEmpty()) {
      tell(3, tree, "another type is extended");
    }
    tree.getMembers().forEach(this::nameMember);
    super.visitClass(tree, none);
    if (fields > MOST_FIELDS) {
      tell(10, tree, fields + " fields");
    }
    return null;
  }

  // A member may be used above its own lines, so all are named before any is looked at.
  private void nameMember(Tree member) {
    if (member instanceof MethodTree) {
      MethodTree named = (MethodTree) member;
      boolean open = named.getModifiers().getFlags().contains(Modifier.PUBLIC);
      (open ? publicMethods : privateMethods).add(named.getName().toString());
      calls.put(named.getName().toString(), new TreeSet<>());
    } else if (member instanceof VariableTree) {
      VariableTree named = (VariableTree) member;
      if (named.getModifiers().getFlags().contains(Modifier.STATIC)) {
        constants.add(named.getName().toString());
      }
      nameArray(named);
    } else if (member instanceof BlockTree && ((BlockTree) member).isStatic()) {
      tell(5, member, "a static initialiser");
    }
  }

  private void nameArray(VariableTree variable) {
    if (variable.getType() != null && variable.getType().getKind() == Tree.Kind.ARRAY_TYPE) {
      arrays.add(variable.getName().toString());
    }
  }

  @Override
  public Void visitMethod(MethodTree tree, Void none) {
    String name = tree.getName().toString();
    boolean open = publicMethods.contains(name);
    Set<Modifier> flags = tree.getModifiers().getFlags();
    if (flags.contains(Modifier.PUBLIC) == flags.contains(Modifier.PRIVATE)) {
      tell(1, tree, name + " is neither public nor private");
    }
    if (open && flags.contains(Modifier.PRIVATE)) {
      tell(1, tree, "the private " + name + " bears the name of a public one");
    }
    checkAnswer(tree);
    checkSize(tree);
    method = name;
    super.visitMethod(tree, none);
    method = "";
    return null;
  }

  private void checkAnswer(MethodTree tree) {
    Tree answer = tree.getReturnType();
    if (answer != null && answer.getKind() == Tree.Kind.ARRAY_TYPE) {
      tell(4, tree, tree.getName() + " answers an array");
    } else if (answer != null && answer.getKind() != Tree.Kind.PRIMITIVE_TYPE) {
      tell(2, tree, tree.getName() + " answers an object");
    }
  }

  private void checkSize(MethodTree tree) {
    if (tree.getParameters().size() > MOST_PARAMETERS) {
      tell(10, tree, tree.getName() + " takes too many parameters");
    }
    long first = lines.getLineNumber(positions.getStartPosition(unit, tree));
    long end = lines.getLineNumber(positions.getEndPosition(unit, tree));
    if (end - first + 1 > MOST_LINES) {
      tell(10, tree, tree.getName() + " is too long");
    }
  }

  @Override
  public Void visitVariable(VariableTree tree, Void none) {
    Tree type = tree.getType();
    boolean plain = type != null
        && (type.getKind() == Tree.Kind.PRIMITIVE_TYPE || type.getKind() == Tree.Kind.ARRAY_TYPE);
    if (!plain) {
      tell(2, tree, tree.getName() + " is of another type");
    }
    if (method.isEmpty()) {
      checkField(tree);
    } else {
      nameArray(tree);
    }
    return super.visitVariable(tree, none);
  }

  private void checkField(VariableTree tree) {
    Set<Modifier> flags = tree.getModifiers().getFlags();
    if (!flags.contains(Modifier.STATIC)) {
      fields++;
      if (!flags.contains(Modifier.PRIVATE)) {
        tell(1, tree, tree.getName() + " is not private");
      }
      return;
    }
    if (flags.contains(Modifier.PUBLIC) == flags.contains(Modifier.PRIVATE)) {
      tell(1, tree, tree.getName() + " is neither public nor private");
    }
    String type = String.valueOf(tree.getType());
    boolean number = type.equals("int") || type.equals("long");
    if (!number || !flags.contains(Modifier.FINAL) || tree.getInitializer() == null) {
      tell(5, tree, tree.getName() + " is not a constant of int or long");
    }
  }

  // ---- types and arrays ----

  @Override
  public Void visitPrimitiveType(PrimitiveTypeTree tree, Void none) {
    if (tree.getPrimitiveTypeKind() == TypeKind.FLOAT || tree.getPrimitiveTypeKind() == TypeKind.DOUBLE) {
      tell(2, tree, "not a whole number");
    }
    return super.visitPrimitiveType(tree, none);
  }

  @Override
  public Void visitArrayType(ArrayTypeTree tree, Void none) {
    if (tree.getType().getKind() != Tree.Kind.PRIMITIVE_TYPE) {
      tell(2, tree, "an array of what is not a number");
    }
    return super.visitArrayType(tree, none);
  }

  @Override
  public Void visitTypeCast(TypeCastTree tree, Void none) {
    if (tree.getType().getKind() != Tree.Kind.PRIMITIVE_TYPE) {
      tell(6, tree, "a cast of a reference");
    }
    return super.visitTypeCast(tree, none);
  }

  @Override
  public Void visitNewArray(NewArrayTree tree, Void none) {
    boolean sized = tree.getDimensions().size() == 1 && tree.getInitializers() == null;
    if (!method.isEmpty() || !sized || !isConstantLength(tree.getDimensions().get(0))) {
      tell(4, tree, "an array not made in a field's initialiser with a constant length");
    }
    return super.visitNewArray(tree, none);
  }

  private boolean isConstantLength(ExpressionTree length) {
    if (length instanceof LiteralTree) {
      Object value = ((LiteralTree) length).getValue();
      return value instanceof Integer && (Integer) value >= 1;
    }
    return constants.contains(length.toString());
  }

  @Override
  public Void visitAssignment(AssignmentTree tree, Void none) {
    if (isArray(tree.getVariable())) {
      tell(4, tree, "an array's name is given to another array");
    }
    return super.visitAssignment(tree, none);
  }

  @Override
  public Void visitBinary(BinaryTree tree, Void none) {
    boolean compares = tree.getKind() == Tree.Kind.EQUAL_TO || tree.getKind() == Tree.Kind.NOT_EQUAL_TO;
    if (compares && (isArray(tree.getLeftOperand()) || isArray(tree.getRightOperand()))) {
      tell(4, tree, "an array is compared");
    }
    return super.visitBinary(tree, none);
  }

  private boolean isArray(Tree tree) {
    return arrays.contains(ownName(tree));
  }

  private static String ownName(Tree tree) {
    String text = tree.toString();
    return text.startsWith("this.") ? text.substring("this.".length()) : text;
  }

  @Override
  public Void visitMemberSelect(MemberSelectTree tree, Void none) {
    boolean own = tree.getExpression().toString().equals("this");
    boolean length = isArray(tree.getExpression()) && tree.getIdentifier().contentEquals("length");
    if (!own && !length) {
      tell(3, tree, tree + " is of another class");
    }
    return super.visitMemberSelect(tree, none);
  }

  // ---- loops ----

  @Override
  public Void visitForLoop(ForLoopTree tree, Void none) {
    Set<String> changed = changedIn(tree.getStatement());
    tree.getUpdate().forEach(update -> changed.addAll(changedIn(update)));
    checkLoop(tree, tree.getCondition(), changed);
    return super.visitForLoop(tree, none);
  }

  @Override
  public Void visitWhileLoop(WhileLoopTree tree, Void none) {
    checkLoop(tree, tree.getCondition(), changedIn(tree.getStatement()));
    return super.visitWhileLoop(tree, none);
  }

  @Override
  public Void visitDoWhileLoop(DoWhileLoopTree tree, Void none) {
    checkLoop(tree, tree.getCondition(), changedIn(tree.getStatement()));
    return super.visitDoWhileLoop(tree, none);
  }

  private void checkLoop(Tree loop, ExpressionTree condition, Set<String> changed) {
    Set<String> counters = new TreeSet<>();
    new TreeScanner<Void, Void>() {
      @Override
      public Void visitIdentifier(IdentifierTree tree, Void none) {
        counters.add(tree.getName().toString());
        return null;
      }
    }.scan(condition, null);
    counters.retainAll(changed);
    if (counters.isEmpty()) {
      tell(8, loop, "a loop whose condition has no counter that the loop changes");
    }
  }

  private static Set<String> changedIn(Tree part) {
    Set<String> changed = new TreeSet<>();
    new TreeScanner<Void, Void>() {
      @Override
      public Void visitAssignment(AssignmentTree tree, Void none) {
        changed.add(ownName(tree.getVariable()));
        return super.visitAssignment(tree, none);
      }

      @Override
      public Void visitCompoundAssignment(CompoundAssignmentTree tree, Void none) {
        changed.add(ownName(tree.getVariable()));
        return super.visitCompoundAssignment(tree, none);
      }

      @Override
      public Void visitUnary(UnaryTree tree, Void none) {
        if (tree.getKind().toString().endsWith("CREMENT")) {
          changed.add(ownName(tree.getExpression()));
        }
        return super.visitUnary(tree, none);
      }
    }.scan(part, null);
    return changed;
  }

  // ---- calls ----

  @Override
  public Void visitMethodInvocation(MethodInvocationTree tree, Void none) {
    String callee = ownName(tree.getMethodSelect());
    if (!calls.containsKey(callee)) {
      tell(3, tree, callee + " is not a method of the class");
    } else if (!method.isEmpty()) {
      calls.get(method).add(callee);
    }
    if (openCalls > 0) {
      tell(10, tree, callee + " is called inside the arguments of another call");
    }
    scan(tree.getMethodSelect(), none);
    openCalls++;
    scan(tree.getArguments(), none);
    openCalls--;
    return null;
  }

  private void checkCalls() {
    for (String start : calls.keySet()) {
      follow(start, new ArrayDeque<>());
    }
  }

  private void follow(String name, Deque<String> above) {
    if (above.contains(name)) {
      faults.add("rule 8: recursion of " + name);
      return;
    }
    above.push(name);
    if (above.size() > MOST_DEPTH) {
      faults.add("rule 10: calls too deep: " + above);
    }
    for (String callee : calls.get(name)) {
      follow(callee, above);
    }
    above.pop();
  }
}
