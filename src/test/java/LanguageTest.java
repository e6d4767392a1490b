import com.sun.source.tree.*;
import com.sun.source.util.JavacTask;
import com.sun.source.util.TreePathScanner;
import com.sun.source.util.Trees;
import java.nio.file.Files;
import java.nio.file.Path;
import java.util.ArrayList;
import java.util.EnumSet;
import java.util.HashMap;
import java.util.HashSet;
import java.util.List;
import java.util.Map;
import java.util.Set;
import javax.lang.model.element.Element;
import javax.lang.model.element.ElementKind;
import javax.lang.model.element.ExecutableElement;
import javax.lang.model.element.Modifier;
import javax.lang.model.element.TypeElement;
import javax.lang.model.type.ArrayType;
import javax.lang.model.type.DeclaredType;
import javax.lang.model.type.TypeKind;
import javax.lang.model.type.TypeMirror;
import javax.tools.JavaCompiler;
import javax.tools.JavaFileObject;
import javax.tools.StandardJavaFileManager;
import javax.tools.ToolProvider;

/**
 * The rules of LANGUAGE.md, as far as the compiler's own view of the source can tell them (1 to 6 and 8 to 13; RoomTest
 * looks after 7 and 12). It is run from the project's root; another file can be named as its argument.
 */
public final class LanguageTest extends TreePathScanner<Void, Void> {
  private static final Set<String> LIBRARY = Set.of(
      "String.length()", "String.charAt(int)", "String.isEmpty()", "String.equals(java.lang.Object)", "String.indexOf(int)",
      "String.substring(int)", "String.substring(int,int)", "String.toCharArray()", "String.String(char[])",
      "StringBuilder.StringBuilder()", "StringBuilder.append(char)", "StringBuilder.append(java.lang.String)",
      "StringBuilder.append(int)", "StringBuilder.charAt(int)", "StringBuilder.setCharAt(int,char)",
      "StringBuilder.setLength(int)", "StringBuilder.deleteCharAt(int)", "StringBuilder.reverse()", "StringBuilder.length()",
      "StringBuilder.toString()", "System.arraycopy(java.lang.Object,int,java.lang.Object,int,int)", "Object.Object()");
  private static final Set<String> LISTS = Set.of("ArrayList", "add", "get", "set", "remove", "size", "isEmpty", "clear", "of");
  private static final Set<String> NUMBERS = Set.of("Integer", "Long", "Math");
  private static final Set<TypeKind> PRIMITIVES = EnumSet.of(TypeKind.INT, TypeKind.LONG, TypeKind.SHORT, TypeKind.BYTE,
      TypeKind.CHAR, TypeKind.BOOLEAN, TypeKind.DOUBLE, TypeKind.FLOAT);
  private static final Set<TypeKind> STATIC_ELEMENTS = EnumSet.of(TypeKind.INT, TypeKind.LONG, TypeKind.CHAR, TypeKind.BYTE);
  private static final int MOST_LINES = 60, MOST_PARAMETERS = 7, MOST_DEEP = 8, MOST_CLASSES = 12, MOST_FIELDS = 20;

  private int wrong = 0;
  private int classes = 0;
  private Trees trees;
  private CompilationUnitTree unit;
  private final Map<Element, Set<Element>> calls = new HashMap<>();

  private void fault(int rule, Tree where, String what) {
    wrong++;
    System.out.println("rule " + rule + ", line " + line(where, false) + ": " + what);
  }

  private long line(Tree tree, boolean end) {
    var positions = trees.getSourcePositions();
    long at = end ? positions.getEndPosition(unit, tree) : positions.getStartPosition(unit, tree);
    return at < 0 ? 0 : unit.getLineMap().getLineNumber(at);
  }

  private Element element() {
    return trees.getElement(getCurrentPath());
  }

  private TypeMirror type(Tree tree) {
    return trees.getTypeMirror(trees.getPath(unit, tree));
  }

  private boolean isOwn(Element element) {
    Element top = element;
    while (top != null && top.getEnclosingElement() != null && top.getEnclosingElement().getKind() != ElementKind.PACKAGE) {
      top = top.getEnclosingElement();
    }
    return top != null && top.getSimpleName().contentEquals("MeanLocks");
  }

  private static boolean isType(TypeMirror type, String name) {
    return type instanceof DeclaredType && type.toString().equals("java.lang." + name);
  }

  // ---- rule 3: types

  private boolean isAllowed(TypeMirror type, boolean insideArray) {
    if (type instanceof ArrayType) {
      TypeMirror part = ((ArrayType) type).getComponentType();
      if (!(part instanceof ArrayType)) return !insideArray && isAllowed(part, true);
      TypeMirror number = ((ArrayType) part).getComponentType();
      return !insideArray && PRIMITIVES.contains(number.getKind()) && number.getKind() != TypeKind.BOOLEAN;
    }
    if (PRIMITIVES.contains(type.getKind()) || type.getKind() == TypeKind.VOID || type.getKind() == TypeKind.TYPEVAR) return true;
    if (!(type instanceof DeclaredType)) return false;
    Element element = ((DeclaredType) type).asElement();
    if (isOwn(element) || isType(type, "String")) return true;
    if (insideArray) return false;
    String name = element.toString();
    if (!name.equals("java.util.List") && !name.equals("java.util.ArrayList")) return isType(type, "StringBuilder");
    for (TypeMirror part : ((DeclaredType) type).getTypeArguments()) {
      if (!isType(part, "Integer") && !(part instanceof DeclaredType && isOwn(((DeclaredType) part).asElement()))) return false;
    }
    return true;
  }

  // ---- rules 1, 2, 5, 11: classes, fields, methods

  @Override public Void visitClass(ClassTree tree, Void none) {
    classes++;
    Element element = element();
    boolean top = element.getEnclosingElement().getKind() == ElementKind.PACKAGE;
    Set<Modifier> modifiers = element.getModifiers();
    if (top && !modifiers.equals(Set.of(Modifier.PUBLIC, Modifier.FINAL))) fault(1, tree, "the class is " + modifiers);
    if (!top && (modifiers.contains(Modifier.PUBLIC) || modifiers.contains(Modifier.PROTECTED))) fault(1, tree, "a class inside is " + modifiers);
    if (!top && !modifiers.contains(Modifier.STATIC)) fault(2, tree, "a class inside is not static");
    if (tree.getSimpleName().length() == 0 || !(getCurrentPath().getParentPath().getLeaf() instanceof ClassTree) && !top) {
      fault(2, tree, "a local or anonymous class");
    }
    int fields = 0;
    for (Tree member : tree.getMembers()) {
      if (member instanceof BlockTree && ((BlockTree) member).isStatic()) fault(5, member, "a static initialiser block");
      if (member instanceof VariableTree && !((VariableTree) member).getModifiers().getFlags().contains(Modifier.STATIC)) fields++;
    }
    if (fields > MOST_FIELDS) fault(11, tree, fields + " fields");
    return super.visitClass(tree, none);
  }

  private void staticField(VariableTree tree, TypeMirror type, Set<Modifier> modifiers) {
    if (!modifiers.contains(Modifier.FINAL)) fault(5, tree, "a static field that is not final");
    boolean constant = type.getKind() == TypeKind.BOOLEAN || STATIC_ELEMENTS.contains(type.getKind()) || isType(type, "String");
    boolean row = type instanceof ArrayType && STATIC_ELEMENTS.contains(((ArrayType) type).getComponentType().getKind())
        && tree.getInitializer() instanceof NewArrayTree && ((NewArrayTree) tree.getInitializer()).getInitializers() != null;
    if (!constant && !row) fault(5, tree, "a static field of " + type);
  }

  @Override public Void visitVariable(VariableTree tree, Void none) {
    Element element = element();
    TypeMirror type = element.asType();
    if (!isAllowed(type, false)) fault(3, tree, "a variable of " + type);
    Set<Modifier> modifiers = element.getModifiers();
    if (element.getKind() == ElementKind.FIELD) {
      boolean face = element.getEnclosingElement().getEnclosingElement().getKind() == ElementKind.PACKAGE;
      boolean open = modifiers.containsAll(Set.of(Modifier.PUBLIC, Modifier.STATIC, Modifier.FINAL));
      if (face && !open && !modifiers.contains(Modifier.PRIVATE)) fault(1, tree, "a field of the face is " + modifiers);
      if (modifiers.contains(Modifier.STATIC)) staticField(tree, type, modifiers);
      if (modifiers.contains(Modifier.VOLATILE) || modifiers.contains(Modifier.TRANSIENT)) fault(6, tree, "a field is " + modifiers);
    }
    return super.visitVariable(tree, none);
  }

  @Override public Void visitMethod(MethodTree tree, Void none) {
    ExecutableElement method = (ExecutableElement) element();
    if (!isAllowed(method.getReturnType(), false)) fault(3, tree, method + " returns " + method.getReturnType());
    if (!tree.getThrows().isEmpty()) fault(6, tree, method + " throws");
    if (Set.of("equals", "hashCode", "toString").contains(tree.getName().toString())) fault(6, tree, method.toString());
    if (method.getModifiers().contains(Modifier.SYNCHRONIZED)) fault(6, tree, method + " is synchronized");
    if (method.getModifiers().contains(Modifier.NATIVE)) fault(4, tree, method + " is native");
    if (tree.getParameters().size() > MOST_PARAMETERS) fault(11, tree, method + " has too many parameters");
    if (line(tree, true) - line(tree, false) + 1 > MOST_LINES) fault(11, tree, method + " has too many lines");
    calls.putIfAbsent(method, new HashSet<>());
    return super.visitMethod(tree, none);
  }

  // ---- rules 4, 8, 10, 12: what is called and made

  private Element caller() {
    for (var path = getCurrentPath(); path != null; path = path.getParentPath()) {
      if (path.getLeaf() instanceof MethodTree) return trees.getElement(path);
    }
    return null;
  }

  private void called(Tree tree) {
    Element callee = element();
    if (!(callee instanceof ExecutableElement)) {
      fault(4, tree, "a call of something unknown");
      return;
    }
    if (caller() != null) calls.computeIfAbsent(caller(), c -> new HashSet<>()).add(callee);
    if (!isOwn(callee) && !isListed((ExecutableElement) callee)) fault(4, tree, callee.getEnclosingElement() + "." + callee);
  }

  private static boolean isListed(ExecutableElement callee) {
    TypeElement owner = (TypeElement) callee.getEnclosingElement();
    String from = owner.getQualifiedName().toString();
    String name = callee.getKind() == ElementKind.CONSTRUCTOR ? owner.getSimpleName().toString() : callee.getSimpleName().toString();
    String call = owner.getSimpleName() + "." + name + callee.toString().substring(callee.toString().indexOf('('));
    if (from.startsWith("java.util.List") || from.equals("java.util.ArrayList")) return LISTS.contains(name);
    if (from.equals("java.util.Arrays")) return Set.of("copyOf", "copyOfRange", "fill").contains(name);
    if (!from.equals("java.lang." + owner.getSimpleName())) return false;
    if (NUMBERS.contains(owner.getSimpleName().toString())) {
      return callee.getModifiers().contains(Modifier.STATIC) && !name.endsWith("Exact") && !call.matches(".*(double|float|String|random|parse).*");
    }
    return LIBRARY.contains(call);
  }

  @Override public Void visitMethodInvocation(MethodInvocationTree tree, Void none) {
    // An array's clone() is the only method of an array.
    boolean clone = tree.getMethodSelect() instanceof MemberSelectTree
        && type(((MemberSelectTree) tree.getMethodSelect()).getExpression()) instanceof ArrayType;
    if (!clone) called(tree);
    return super.visitMethodInvocation(tree, none);
  }

  @Override public Void visitNewClass(NewClassTree tree, Void none) {
    if (tree.getClassBody() != null) fault(2, tree, "an anonymous class");
    called(tree);
    return super.visitNewClass(tree, none);
  }

  @Override public Void visitMemberSelect(MemberSelectTree tree, Void none) {
    Element element = element();
    boolean field = element != null && element.getKind() == ElementKind.FIELD;
    if (field && !isOwn(element) && !tree.getIdentifier().contentEquals("length")) fault(4, tree, "the field " + tree);
    return super.visitMemberSelect(tree, none);
  }

  private int deep(Element method, List<Element> open) {
    if (open.contains(method)) {
      wrong++;
      System.out.println("rule 8: " + method + " calls itself, over " + open);
      return 0;
    }
    open.add(method);
    int most = 0;
    for (Element callee : calls.getOrDefault(method, Set.of())) most = Math.max(most, deep(callee, open));
    open.remove(open.size() - 1);
    return 1 + most;
  }

  // ---- rules 2, 6, 9, 10: statements and expressions

  @Override public Void visitLambdaExpression(LambdaExpressionTree tree, Void none) {
    fault(2, tree, "a lambda");
    return super.visitLambdaExpression(tree, none);
  }

  @Override public Void visitMemberReference(MemberReferenceTree tree, Void none) {
    fault(2, tree, "a method reference");
    return super.visitMemberReference(tree, none);
  }

  @Override public Void visitThrow(ThrowTree tree, Void none) {
    fault(6, tree, "throw");
    return super.visitThrow(tree, none);
  }

  @Override public Void visitTry(TryTree tree, Void none) {
    fault(6, tree, "try");
    return super.visitTry(tree, none);
  }

  @Override public Void visitSynchronized(SynchronizedTree tree, Void none) {
    fault(6, tree, "synchronized");
    return super.visitSynchronized(tree, none);
  }

  @Override public Void visitAssert(AssertTree tree, Void none) {
    fault(6, tree, "assert");
    return super.visitAssert(tree, none);
  }

  @Override public Void visitTypeCast(TypeCastTree tree, Void none) {
    TypeMirror type = type(tree.getType());
    // Among own classes a cast may stand behind a test; there is none, so that none has to be looked for.
    if (!PRIMITIVES.contains(type.getKind())) fault(6, tree, "a cast to " + type);
    return super.visitTypeCast(tree, none);
  }

  @Override public Void visitWhileLoop(WhileLoopTree tree, Void none) {
    endless(tree, tree.getCondition());
    return super.visitWhileLoop(tree, none);
  }

  @Override public Void visitDoWhileLoop(DoWhileLoopTree tree, Void none) {
    endless(tree, tree.getCondition());
    return super.visitDoWhileLoop(tree, none);
  }

  @Override public Void visitForLoop(ForLoopTree tree, Void none) {
    endless(tree, tree.getCondition());
    return super.visitForLoop(tree, none);
  }

  private void endless(Tree loop, ExpressionTree condition) {
    if (condition == null || condition.toString().matches("\\(*true\\)*")) fault(9, loop, "a loop without an end");
  }

  private boolean isText(Tree tree) {
    TypeMirror type = type(tree);
    return isType(type, "String") || isType(type, "Integer");
  }

  @Override public Void visitBinary(BinaryTree tree, Void none) {
    boolean texts = isText(tree.getLeftOperand()) || isText(tree.getRightOperand());
    if (texts && tree.getKind() == Tree.Kind.PLUS) fault(10, tree, "texts joined by +");
    if (texts && (tree.getKind() == Tree.Kind.EQUAL_TO || tree.getKind() == Tree.Kind.NOT_EQUAL_TO)) fault(6, tree, "== of texts");
    if (tree.getKind() == Tree.Kind.DIVIDE || tree.getKind() == Tree.Kind.REMAINDER) divisor(tree, tree.getRightOperand());
    return super.visitBinary(tree, none);
  }

  @Override public Void visitCompoundAssignment(CompoundAssignmentTree tree, Void none) {
    if (isText(tree.getVariable())) fault(10, tree, "texts joined by +=");
    Tree.Kind kind = tree.getKind();
    if (kind == Tree.Kind.DIVIDE_ASSIGNMENT || kind == Tree.Kind.REMAINDER_ASSIGNMENT) divisor(tree, tree.getExpression());
    return super.visitCompoundAssignment(tree, none);
  }

  /** A divisor is a constant above 0, so that no test has to be looked for. */
  private void divisor(Tree tree, ExpressionTree divisor) {
    Element element = trees.getElement(trees.getPath(unit, divisor));
    Object value = divisor instanceof LiteralTree ? ((LiteralTree) divisor).getValue() : null;
    if (element instanceof javax.lang.model.element.VariableElement) {
      value = ((javax.lang.model.element.VariableElement) element).getConstantValue();
    }
    if (!(value instanceof Number) || ((Number) value).longValue() <= 0) fault(7, tree, "a divisor that is no constant above 0");
  }

  @Override public Void visitLiteral(LiteralTree tree, Void none) {
    Object value = tree.getValue();
    if (value instanceof String && !((String) value).chars().allMatch(c -> c >= 1 && c <= 127)) fault(4, tree, "a sign above 127");
    if (value instanceof Character && (Character) value > 255) fault(3, tree, "a sign above 255");
    return super.visitLiteral(tree, none);
  }

  private void look(Path file) throws Exception {
    JavaCompiler compiler = ToolProvider.getSystemJavaCompiler();
    try (StandardJavaFileManager files = compiler.getStandardFileManager(null, null, null)) {
      Iterable<? extends JavaFileObject> sources = files.getJavaFileObjects(file);
      JavacTask task = (JavacTask) compiler.getTask(null, files, null, List.of("--release", "17", "-proc:none"), null, sources);
      unit = task.parse().iterator().next();
      task.analyze();
      trees = Trees.instance(task);
      if (unit.getPackageName() != null) fault(1, unit, "a package line");
      for (ImportTree line : unit.getImports()) {
        if (!line.getQualifiedIdentifier().toString().matches("java\\.util\\.(List|ArrayList|Arrays|Iterator)")) fault(4, line, line.toString());
      }
      if (unit.getTypeDecls().size() != 1) fault(1, unit, unit.getTypeDecls().size() + " classes side by side");
      scan(unit, null);
      if (classes > MOST_CLASSES) fault(11, unit, classes + " classes");
      for (Element method : new ArrayList<>(calls.keySet())) {
        int deep = deep(method, new ArrayList<>());
        if (deep > MOST_DEEP) fault(11, unit, method + " goes " + deep + " calls deep");
      }
    }
    for (byte b : Files.readAllBytes(file)) if (b != '\n' && (b < 32 || b > 126)) fault(3, unit, "a sign that is not 32 to 126");
  }

  public static void main(String[] args) throws Exception {
    LanguageTest test = new LanguageTest();
    test.look(Path.of(args.length > 0 ? args[0] : "src/main/java/MeanLocks.java"));
    System.out.println(test.wrong == 0 ? "the source keeps to the language" : test.wrong + " faults");
    if (test.wrong != 0) System.exit(1);
  }
}
