import com.sun.source.tree.AssertTree;
import com.sun.source.tree.BinaryTree;
import com.sun.source.tree.BlockTree;
import com.sun.source.tree.CatchTree;
import com.sun.source.tree.ClassTree;
import com.sun.source.tree.CompilationUnitTree;
import com.sun.source.tree.CompoundAssignmentTree;
import com.sun.source.tree.DoWhileLoopTree;
import com.sun.source.tree.ExpressionTree;
import com.sun.source.tree.ForLoopTree;
import com.sun.source.tree.LambdaExpressionTree;
import com.sun.source.tree.LiteralTree;
import com.sun.source.tree.MemberReferenceTree;
import com.sun.source.tree.MethodInvocationTree;
import com.sun.source.tree.MethodTree;
import com.sun.source.tree.NewArrayTree;
import com.sun.source.tree.NewClassTree;
import com.sun.source.tree.ParenthesizedTree;
import com.sun.source.tree.SynchronizedTree;
import com.sun.source.tree.ThrowTree;
import com.sun.source.tree.Tree;
import com.sun.source.tree.TryTree;
import com.sun.source.tree.TypeCastTree;
import com.sun.source.tree.VariableTree;
import com.sun.source.tree.WhileLoopTree;
import com.sun.source.util.JavacTask;
import com.sun.source.util.TreePath;
import com.sun.source.util.TreePathScanner;
import com.sun.source.util.Trees;
import java.io.IOException;
import java.net.URI;
import java.util.ArrayList;
import java.util.LinkedHashMap;
import java.util.LinkedHashSet;
import java.util.List;
import java.util.Map;
import java.util.Set;
import java.util.TreeSet;
import javax.lang.model.element.Element;
import javax.lang.model.element.ElementKind;
import javax.lang.model.element.ExecutableElement;
import javax.lang.model.element.Modifier;
import javax.lang.model.element.TypeElement;
import javax.lang.model.type.ArrayType;
import javax.lang.model.type.DeclaredType;
import javax.lang.model.type.TypeKind;
import javax.lang.model.type.TypeMirror;
import javax.tools.JavaCompiler;
import javax.tools.JavaFileObject;
import javax.tools.SimpleJavaFileObject;
import javax.tools.ToolProvider;

/**
 * Reads a source as javac does and tells what in it is against LANGUAGE.md, each fault with the
 * number of its rule. What a rule asks of a run (rule 7, the room of rule 12) is not told from here.
 */
final class LanguageRules extends TreePathScanner<Void, Void> {
  private static final Set<String> EXCEPTIONS = Set.of("IllegalStateException", "IllegalArgumentException",
      "IndexOutOfBoundsException", "ArithmeticException", "UnsupportedOperationException",
      "NoSuchElementException", "RuntimeException");
  /** Such as the machine throws too, or a class above one of these. */
  private static final Set<String> OF_THE_MACHINE = Set.of("IndexOutOfBoundsException", "ArithmeticException",
      "RuntimeException");
  private static final Map<String, Set<String>> LIBRARY = Map.of(
      "String", Set.of("length", "charAt", "isEmpty", "equals", "indexOf", "substring", "toCharArray"),
      "StringBuilder", Set.of("append", "charAt", "setCharAt", "setLength", "deleteCharAt", "reverse", "length",
          "toString"),
      "AbstractStringBuilder", Set.of("charAt", "setCharAt", "setLength", "length"),
      "ArrayList", Set.of("add", "get", "set", "remove", "size", "isEmpty", "clear"),
      "List", Set.of("add", "get", "set", "remove", "size", "isEmpty", "clear", "of"),
      "System", Set.of("arraycopy"),
      "Arrays", Set.of("copyOf", "copyOfRange", "fill"));
  private static final Set<String> CLASSES = Set.of("String", "StringBuilder", "ArrayList", "List", "Integer",
      "Iterator", "Iterable", "Comparable");

  private static final int PARAMETERS = 7;
  private static final int LINES = 60;
  private static final int DEEP = 8;
  private static final int CLASSES_IN_FILE = 12;
  private static final int FIELDS_IN_CLASS = 20;

  final TreeSet<String> faults = new TreeSet<>();
  final Map<Element, Set<Element>> calls = new LinkedHashMap<>();
  private final CompilationUnitTree unit;
  private final Trees trees;
  private final Set<Element> own = new LinkedHashSet<>();
  private MethodTree method = null;
  private int buildersInMethod = 0;

  /** The faults of a source whose public class is Twostacks. */
  static LanguageRules of(String source) throws IOException {
    JavaFileObject file = new SimpleJavaFileObject(URI.create("string:///Twostacks.java"), JavaFileObject.Kind.SOURCE) {
      @Override
      public CharSequence getCharContent(boolean ignoreEncodingErrors) {
        return source;
      }
    };
    JavaCompiler compiler = ToolProvider.getSystemJavaCompiler();
    List<String> broken = new ArrayList<>();
    JavacTask task = (JavacTask) compiler.getTask(null, null,
        message -> broken.add(message.toString()), List.of("--release", "17"), null, List.of(file));
    CompilationUnitTree unit = task.parse().iterator().next();
    task.analyze();
    if (!broken.isEmpty()) {
      throw new IllegalStateException("does not compile: " + broken);
    }
    LanguageRules rules = new LanguageRules(unit, Trees.instance(task));
    rules.read();
    return rules;
  }

  private LanguageRules(CompilationUnitTree unit, Trees trees) {
    this.unit = unit;
    this.trees = trees;
  }

  private void read() {
    if (unit.getPackageName() != null || unit.getTypeDecls().size() != 1) {
      fault(1, unit, "one class without a package");
    }
    new TreePathScanner<Void, Void>() {
      @Override
      public Void visitClass(ClassTree tree, Void none) {
        own.add(trees.getElement(getCurrentPath()));
        return super.visitClass(tree, none);
      }
    }.scan(new TreePath(unit), null);
    if (own.size() > CLASSES_IN_FILE) {
      fault(11, unit, own.size() + " classes");
    }
    scan(new TreePath(unit), null);
    for (Element from : calls.keySet()) {
      int deep = deepFrom(from, new ArrayList<>());
      if (deep > DEEP) {
        faults.add("rule 11: " + from + " goes " + deep + " calls deep");
      }
    }
  }

  private void fault(int rule, Tree tree, String what) {
    long line = unit.getLineMap().getLineNumber(trees.getSourcePositions().getStartPosition(unit, tree));
    faults.add("rule " + rule + ": " + what + ", line " + line);
  }

  private Element element(Tree tree) {
    return trees.getElement(TreePath.getPath(unit, tree));
  }

  private TypeMirror type(Tree tree) {
    return trees.getTypeMirror(TreePath.getPath(unit, tree));
  }

  // ---- rules 1, 2, 5 and 11: classes and what they have

  @Override
  public Void visitClass(ClassTree tree, Void none) {
    Element here = element(tree);
    boolean isFace = here.getEnclosingElement().getKind() == ElementKind.PACKAGE;
    Set<Modifier> modifiers = here.getModifiers();
    if (isFace) {
      if (!here.getSimpleName().contentEquals("Twostacks") || !modifiers.contains(Modifier.PUBLIC)
          || !modifiers.contains(Modifier.FINAL)) {
        fault(1, tree, "the class is to be public and final");
      }
    } else if (modifiers.contains(Modifier.PUBLIC) || modifiers.contains(Modifier.PROTECTED)
        || here.getKind() == ElementKind.CLASS && !modifiers.contains(Modifier.STATIC)) {
      fault(1, tree, "a class inside that is not static, or is seen");
    }
    if (here.getEnclosingElement().getKind() == ElementKind.METHOD || here.getSimpleName().length() == 0) {
      fault(2, tree, "a class inside a method");
    }
    int fields = 0;
    Set<String> names = namesOfFace();
    for (Element member : here.getEnclosedElements()) {
      fields += member.getKind() == ElementKind.FIELD && !member.getModifiers().contains(Modifier.STATIC) ? 1 : 0;
      if (isFace && !own.contains(member) && !member.getModifiers().contains(Modifier.PRIVATE)
          && (member.getKind() == ElementKind.FIELD || !member.getModifiers().contains(Modifier.PUBLIC))) {
        faults.add("rule 1: " + member + " is seen");
      }
      if (member.getKind() == ElementKind.METHOD && member.getModifiers().contains(Modifier.PRIVATE)
          && names.contains(member.getSimpleName().toString())) {
        faults.add("rule 1: private " + member + " bears a public one's name");
      }
    }
    if (fields > FIELDS_IN_CLASS) {
      fault(11, tree, fields + " fields");
    }
    return super.visitClass(tree, none);
  }

  private Set<String> namesOfFace() {
    Set<String> names = new LinkedHashSet<>();
    for (Element face : own) {
      if (face.getEnclosingElement().getKind() != ElementKind.PACKAGE) {
        continue;
      }
      for (Element member : face.getEnclosedElements()) {
        if (member.getModifiers().contains(Modifier.PUBLIC)) {
          names.add(member.getSimpleName().toString());
        }
      }
    }
    return names;
  }

  @Override
  public Void visitBlock(BlockTree tree, Void none) {
    if (tree.isStatic()) {
      fault(5, tree, "a static initialiser block");
    }
    return super.visitBlock(tree, none);
  }

  @Override
  public Void visitVariable(VariableTree tree, Void none) {
    Element here = element(tree);
    needType(tree, here.asType());
    if (here.getKind() == ElementKind.FIELD && here.getModifiers().contains(Modifier.STATIC)
        && (!here.getModifiers().contains(Modifier.FINAL) || !isConstant(tree, here.asType()))) {
      fault(5, tree, "a static field that is no constant");
    }
    return super.visitVariable(tree, none);
  }

  private static boolean isConstant(VariableTree tree, TypeMirror type) {
    if (type.getKind() == TypeKind.ARRAY) {
      return Set.of("int[]", "long[]", "char[]", "byte[]").contains(type.toString())
          && tree.getInitializer() instanceof NewArrayTree written && written.getInitializers() != null;
    }
    return Set.of("int", "long", "boolean", "char", "java.lang.String").contains(type.toString())
        && tree.getInitializer() != null;
  }

  // ---- rules 3 and 4: types and the library

  private void needType(Tree tree, TypeMirror type) {
    if (!isAllowed(type)) {
      fault(3, tree, "the type " + type);
    }
  }

  private boolean isAllowed(TypeMirror type) {
    if (type.getKind() == TypeKind.ARRAY) {
      TypeMirror inside = ((ArrayType) type).getComponentType();
      if (inside.getKind() == TypeKind.ARRAY) {
        return ((ArrayType) inside).getComponentType().getKind().isPrimitive();
      }
      return inside.getKind().isPrimitive() || isOwn(inside);
    }
    return type.getKind().isPrimitive() || type.getKind() == TypeKind.VOID || type.getKind() == TypeKind.TYPEVAR
        || isOwn(type)
        || type.getKind() == TypeKind.DECLARED && CLASSES.contains(simpleName(type));
  }

  private boolean isOwn(TypeMirror type) {
    return type.getKind() == TypeKind.DECLARED && own.contains(((DeclaredType) type).asElement());
  }

  private static String simpleName(TypeMirror type) {
    return type.getKind() == TypeKind.DECLARED ? ((DeclaredType) type).asElement().getSimpleName().toString()
        : type.toString();
  }

  @Override
  public Void visitTypeCast(TypeCastTree tree, Void none) {
    needType(tree, type(tree.getType()));
    return super.visitTypeCast(tree, none);
  }

  @Override
  public Void visitNewArray(NewArrayTree tree, Void none) {
    needType(tree, type(tree));
    return super.visitNewArray(tree, none);
  }

  @Override
  public Void visitLiteral(LiteralTree tree, Void none) {
    String text = tree.getValue() instanceof String || tree.getValue() instanceof Character
        ? tree.getValue().toString() : "";
    if (text.chars().anyMatch(sign -> sign < 1 || sign > 127)) {
      fault(4, tree, "a sign beyond 127");
    }
    return super.visitLiteral(tree, none);
  }

  @Override
  public Void visitMethodInvocation(MethodInvocationTree tree, Void none) {
    ExecutableElement called = (ExecutableElement) element(tree);
    TypeElement owner = (TypeElement) called.getEnclosingElement();
    if (!own.contains(owner) && !isInLibrary(called, owner)) {
      fault(4, tree, "the library's " + owner.getSimpleName() + "." + called);
    }
    called(called);
    boolean isInConstructor = method != null && element(method).getKind() == ElementKind.CONSTRUCTOR;
    if (isInConstructor && own.contains(owner) && called.getKind() == ElementKind.METHOD
        && !called.getModifiers().contains(Modifier.STATIC) && !called.getModifiers().contains(Modifier.PRIVATE)
        && !owner.getModifiers().contains(Modifier.FINAL)) {
      fault(12, tree, "a constructor calls what could be overridden");
    }
    return super.visitMethodInvocation(tree, none);
  }

  private static boolean isInLibrary(ExecutableElement called, TypeElement owner) {
    String name = called.getSimpleName().toString();
    String from = owner.getSimpleName().toString();
    if (called.getKind() == ElementKind.CONSTRUCTOR) {
      return from.equals("Object") || from.equals("Record") || from.equals("Enum");
    }
    if (from.equals("Object") || from.equals("Array")) {
      return name.equals("clone");
    }
    if (Set.of("Integer", "Long", "Math").contains(from)) {
      return called.getModifiers().contains(Modifier.STATIC) && !name.endsWith("Exact")
          && called.getParameters().stream().allMatch(each -> Set.of("int", "long").contains(each.asType().toString()))
          && Set.of("int", "long").contains(called.getReturnType().toString());
    }
    String taken = called.getParameters().toString().isEmpty() ? "" : called.getParameters().get(0).asType().toString();
    if (name.equals("append")) {
      return Set.of("char", "java.lang.String", "int").contains(taken);
    }
    if (name.equals("indexOf")) {
      return taken.equals("int");
    }
    return LIBRARY.getOrDefault(from, Set.of()).contains(name);
  }

  @Override
  public Void visitNewClass(NewClassTree tree, Void none) {
    Element made = element(tree);
    Element owner = made.getEnclosingElement();
    called((ExecutableElement) made);
    String name = owner.getSimpleName().toString();
    boolean isThrown = getCurrentPath().getParentPath().getLeaf() instanceof ThrowTree;
    if (name.equals("StringBuilder")) {
      buildersInMethod++;
      if (buildersInMethod > 1) {
        fault(12, tree, "more than one StringBuilder a call");
      }
    }
    if (!own.contains(owner) && !isThrown) {
      boolean isPlain = tree.getArguments().isEmpty() && Set.of("StringBuilder", "ArrayList").contains(name);
      if (!isPlain && !(name.equals("String") && made.toString().equals("String(char[])"))) {
        fault(4, tree, "new " + made);
      }
    }
    return super.visitNewClass(tree, none);
  }

  // ---- rule 2, 6 and 10: what may not stand there

  @Override
  public Void visitLambdaExpression(LambdaExpressionTree tree, Void none) {
    fault(2, tree, "a lambda");
    return super.visitLambdaExpression(tree, none);
  }

  @Override
  public Void visitMemberReference(MemberReferenceTree tree, Void none) {
    fault(2, tree, "a method reference");
    return super.visitMemberReference(tree, none);
  }

  @Override
  public Void visitThrow(ThrowTree tree, Void none) {
    if (!(tree.getExpression() instanceof NewClassTree made) || !EXCEPTIONS.contains(simpleName(type(made)))
        || made.getArguments().size() > 1
        || made.getArguments().size() == 1 && !(made.getArguments().get(0) instanceof LiteralTree)) {
      fault(6, tree, "thrown otherwise than throw new E(\"a written text\")");
    }
    if (method != null && element(method).getKind() == ElementKind.CONSTRUCTOR) {
      fault(6, tree, "a throw in a constructor");
    }
    return super.visitThrow(tree, none);
  }

  @Override
  public Void visitTry(TryTree tree, Void none) {
    if (tree.getFinallyBlock() != null || !tree.getResources().isEmpty()) {
      fault(6, tree, "finally, or resources");
    }
    return super.visitTry(tree, none);
  }

  @Override
  public Void visitCatch(CatchTree tree, Void none) {
    String name = simpleName(type(tree.getParameter().getType()));
    if (!EXCEPTIONS.contains(name) || OF_THE_MACHINE.contains(name)) {
      fault(6, tree, "a catch of " + name);
    }
    // Its parameter has a type that no other variable may have.
    return scan(tree.getBlock(), none);
  }

  @Override
  public Void visitSynchronized(SynchronizedTree tree, Void none) {
    fault(6, tree, "synchronized");
    return super.visitSynchronized(tree, none);
  }

  @Override
  public Void visitAssert(AssertTree tree, Void none) {
    fault(6, tree, "assert");
    return super.visitAssert(tree, none);
  }

  @Override
  public Void visitBinary(BinaryTree tree, Void none) {
    boolean isEqual = tree.getKind() == Tree.Kind.EQUAL_TO || tree.getKind() == Tree.Kind.NOT_EQUAL_TO;
    if (isEqual && (isTextOrInteger(tree.getLeftOperand()) && isTextOrInteger(tree.getRightOperand()))) {
      fault(6, tree, "== between two Strings or two Integers");
    }
    if (tree.getKind() == Tree.Kind.PLUS && isText(tree)) {
      fault(10, tree, "texts joined by +");
    }
    return super.visitBinary(tree, none);
  }

  @Override
  public Void visitCompoundAssignment(CompoundAssignmentTree tree, Void none) {
    if (isText(tree)) {
      fault(10, tree, "texts joined by +");
    }
    return super.visitCompoundAssignment(tree, none);
  }

  private boolean isText(ExpressionTree tree) {
    return type(tree).toString().equals("java.lang.String");
  }

  private boolean isTextOrInteger(ExpressionTree tree) {
    return isText(tree) || type(tree).toString().equals("java.lang.Integer");
  }

  // ---- rule 9: loops

  @Override
  public Void visitForLoop(ForLoopTree tree, Void none) {
    if (tree.getCondition() == null || !isTold(tree.getCondition()) || tree.getUpdate().isEmpty()) {
      fault(9, tree, "a loop whose end can't be seen");
    }
    return super.visitForLoop(tree, none);
  }

  @Override
  public Void visitWhileLoop(WhileLoopTree tree, Void none) {
    if (!isTold(tree.getCondition())) {
      fault(9, tree, "a loop whose end can't be seen");
    }
    return super.visitWhileLoop(tree, none);
  }

  @Override
  public Void visitDoWhileLoop(DoWhileLoopTree tree, Void none) {
    if (!isTold(tree.getCondition())) {
      fault(9, tree, "a loop whose end can't be seen");
    }
    return super.visitDoWhileLoop(tree, none);
  }

  /** There is a comparison in it. */
  private static boolean isTold(ExpressionTree condition) {
    if (condition instanceof ParenthesizedTree inside) {
      return isTold(inside.getExpression());
    }
    if (condition instanceof BinaryTree both) {
      return switch (both.getKind()) {
        case LESS_THAN, LESS_THAN_EQUAL, GREATER_THAN, GREATER_THAN_EQUAL, NOT_EQUAL_TO -> true;
        default -> isTold(both.getLeftOperand()) || isTold(both.getRightOperand());
      };
    }
    return false;
  }

  // ---- rules 6, 8 and 11: methods and their calls

  @Override
  public Void visitMethod(MethodTree tree, Void none) {
    ExecutableElement here = (ExecutableElement) element(tree);
    MethodTree outer = method;
    method = tree;
    buildersInMethod = 0;
    calls.computeIfAbsent(here, key -> new LinkedHashSet<>());
    if (tree.getReturnType() != null) {
      needType(tree, here.getReturnType());
    }
    if (tree.getParameters().size() > PARAMETERS) {
      fault(11, tree, tree.getParameters().size() + " parameters");
    }
    long first = unit.getLineMap().getLineNumber(trees.getSourcePositions().getStartPosition(unit, tree));
    long last = unit.getLineMap().getLineNumber(Math.max(0, trees.getSourcePositions().getEndPosition(unit, tree)));
    if (last - first + 1 > LINES) {
      fault(11, tree, last - first + 1 + " lines");
    }
    if (here.getModifiers().contains(Modifier.SYNCHRONIZED)) {
      fault(6, tree, "synchronized");
    }
    if (Set.of("equals", "hashCode", "toString").contains(here.getSimpleName().toString())) {
      fault(6, tree, "a " + here.getSimpleName() + " of its own");
    }
    Set<Tree.Kind> kinds = kindsIn(tree);
    if (kinds.contains(Tree.Kind.TRY) && kinds.contains(Tree.Kind.THROW)) {
      fault(6, tree, "a try in the method that holds the throw");
    }
    super.visitMethod(tree, none);
    method = outer;
    return null;
  }

  private static Set<Tree.Kind> kindsIn(Tree tree) {
    Set<Tree.Kind> kinds = new LinkedHashSet<>();
    new com.sun.source.util.TreeScanner<Void, Void>() {
      @Override
      public Void scan(Tree inside, Void none) {
        if (inside != null) {
          kinds.add(inside.getKind());
        }
        return super.scan(inside, none);
      }
    }.scan(tree, null);
    return kinds;
  }

  private void called(ExecutableElement called) {
    if (method != null) {
      calls.get(element(method)).add(called);
    }
  }

  /** How many calls stand open at most, this one with them; the library's own are one each. */
  int deepFrom(Element from, List<Element> open) {
    if (open.contains(from)) {
      faults.add("rule 8: " + from + " calls itself");
      return 0;
    }
    List<Element> now = new ArrayList<>(open);
    now.add(from);
    int most = 0;
    for (Element next : calls.getOrDefault(from, Set.of())) {
      boolean isObject = next.getKind() == ElementKind.CONSTRUCTOR
          && next.getEnclosingElement().getSimpleName().contentEquals("Object");
      most = isObject ? most : Math.max(most, deepFrom(next, now));
    }
    return most + 1;
  }
}
