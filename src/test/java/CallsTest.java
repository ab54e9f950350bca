import com.sun.source.tree.BinaryTree;
import com.sun.source.tree.CompilationUnitTree;
import com.sun.source.tree.MethodInvocationTree;
import com.sun.source.tree.MethodTree;
import com.sun.source.tree.VariableTree;
import com.sun.source.util.JavacTask;
import com.sun.source.util.TreePath;
import com.sun.source.util.TreePathScanner;
import com.sun.source.util.Trees;
import java.nio.file.Path;
import java.util.HashMap;
import java.util.HashSet;
import java.util.List;
import java.util.Map;
import java.util.Set;
import java.util.TreeMap;
import java.util.TreeSet;
import javax.lang.model.element.Element;
import javax.lang.model.element.ElementKind;
import javax.lang.model.element.Modifier;
import javax.lang.model.type.TypeMirror;
import javax.tools.JavaCompiler;
import javax.tools.StandardJavaFileManager;
import javax.tools.ToolProvider;

/** Rules of ../shared/LANGUAGE.md that need the names of the source resolved: types, the library, how deep calls go. */
public final class CallsTest extends TreePathScanner<Void, Void> {
  private static final int DEPTH_MOST = 8;
  private static final Set<String> TYPES = Set.of("int", "long", "boolean", "byte", "char", "short", "void", "int[]",
      "long[]", "byte[]", "char[]", "boolean[]", "java.lang.String");
  private static final Set<String> CONSTANTS = Set.of("int", "long", "boolean", "char", "java.lang.String", "int[]",
      "long[]", "char[]", "byte[]");
  private static final Map<String, Set<String>> LIBRARY = Map.of(
      "java.lang.String", Set.of("length", "charAt", "isEmpty", "equals", "indexOf", "substring", "toCharArray"),
      "java.lang.Math", Set.of("max", "min", "abs", "floorDiv", "floorMod"),
      "java.lang.Integer", Set.of("bitCount", "compare", "max", "min"),
      "java.lang.System", Set.of("arraycopy"),
      "java.util.Arrays", Set.of("fill", "copyOf", "copyOfRange"),
      "java.lang.Object", Set.of("<init>"));

  private final Trees trees;
  private final Map<String, Set<String>> calls = new TreeMap<>();
  private final Set<String> publicNames = new HashSet<>();
  private final Set<String> otherNames = new HashSet<>();
  private String open = "";

  private CallsTest(Trees trees) {
    this.trees = trees;
  }

  public static void main(String[] args) throws java.io.IOException {
    JavaCompiler compiler = ToolProvider.getSystemJavaCompiler();
    try (StandardJavaFileManager files = compiler.getStandardFileManager(null, null, null)) {
      JavacTask task = (JavacTask) compiler.getTask(null, files, null, List.of("-proc:none"), null,
          files.getJavaFileObjects(Path.of("src/main/java/StonePost.java")));
      Iterable<? extends CompilationUnitTree> units = task.parse();
      task.analyze();
      for (CompilationUnitTree unit : units) {
        CallsTest test = new CallsTest(Trees.instance(task));
        test.scan(new TreePath(unit), null);
        test.checkNames();
        test.checkDepths();
      }
    }
    Due.end();
  }

  private static boolean isOwn(String type) {
    return type.equals("StonePost") || type.startsWith("StonePost.");
  }

  private static String ownerOf(Element method) {
    return method.getEnclosingElement().toString();
  }

  private static String keyOf(Element method) {
    return ownerOf(method) + "." + method;
  }

  @Override
  public Void visitMethod(MethodTree tree, Void none) {
    Element method = trees.getElement(getCurrentPath());
    open = keyOf(method);
    calls.put(open, new TreeSet<>());
    boolean isFace = ownerOf(method).equals("StonePost") && method.getModifiers().contains(Modifier.PUBLIC);
    if (method.getKind() == ElementKind.METHOD) {
      (isFace ? publicNames : otherNames).add(tree.getName().toString());
    }
    super.visitMethod(tree, none);
    open = "";
    return null;
  }

  @Override
  public Void visitMethodInvocation(MethodInvocationTree tree, Void none) {
    Element called = trees.getElement(getCurrentPath());
    String owner = ownerOf(called);
    if (isOwn(owner)) {
      Due.isTrue("calls stand in methods: " + tree, !open.isEmpty());
      calls.computeIfAbsent(open, key -> new TreeSet<>()).add(keyOf(called));
    } else {
      boolean isListed = LIBRARY.getOrDefault(owner, Set.of()).contains(called.getSimpleName().toString());
      Due.isTrue("rule 4: " + owner + "." + called, isListed);
    }
    return super.visitMethodInvocation(tree, none);
  }

  @Override
  public Void visitVariable(VariableTree tree, Void none) {
    Element variable = trees.getElement(getCurrentPath());
    String type = variable.asType().toString();
    String item = type.endsWith("[]") ? type.substring(0, type.length() - 2) : type;
    Due.isTrue("rule 3: " + type + " " + variable, TYPES.contains(type) || isOwn(item));
    boolean isConstant = variable.getModifiers().contains(Modifier.STATIC);
    Due.isTrue("rule 5: " + type + " " + variable, !isConstant || CONSTANTS.contains(type));
    return super.visitVariable(tree, none);
  }

  @Override
  public Void visitBinary(BinaryTree tree, Void none) {
    TypeMirror type = trees.getTypeMirror(getCurrentPath());
    Due.isTrue("rule 10: texts are not joined by +: " + tree, !type.toString().equals("java.lang.String"));
    Due.isTrue("rule 3: no doubles: " + tree, !type.toString().equals("double") && !type.toString().equals("float"));
    return super.visitBinary(tree, none);
  }

  private void checkNames() {
    Due.is("public methods", publicNames.size(), 48);
    for (String name : otherNames) {
      Due.isTrue("rule 1: " + name + " bears no public name", !publicNames.contains(name));
    }
  }

  private void checkDepths() {
    Map<String, Integer> known = new HashMap<>();
    for (String method : calls.keySet()) {
      int depth = depth(method, known, new HashSet<>());
      Due.isTrue("rule 11: " + method + " goes " + depth + " calls deep", depth <= DEPTH_MOST);
    }
  }

  /** How many methods stand open at once, at most, from a method on. */
  private int depth(String method, Map<String, Integer> known, Set<String> above) {
    if (known.containsKey(method)) {
      return known.get(method);
    }
    Due.isTrue("rule 8: " + method + " calls itself", above.add(method));
    int deepest = 0;
    for (String called : calls.getOrDefault(method, Set.of())) {
      if (!above.contains(called)) {
        deepest = Math.max(deepest, depth(called, known, above));
      } else {
        Due.isTrue("rule 8: " + method + " and " + called + " call one another", false);
      }
    }
    above.remove(method);
    known.put(method, deepest + 1);
    return deepest + 1;
  }
}
