import com.sun.source.tree.AssertTree;
import com.sun.source.tree.BlockTree;
import com.sun.source.tree.ClassTree;
import com.sun.source.tree.CompilationUnitTree;
import com.sun.source.tree.ImportTree;
import com.sun.source.tree.LambdaExpressionTree;
import com.sun.source.tree.MemberReferenceTree;
import com.sun.source.tree.MemberSelectTree;
import com.sun.source.tree.MethodTree;
import com.sun.source.tree.NewClassTree;
import com.sun.source.tree.SynchronizedTree;
import com.sun.source.tree.ThrowTree;
import com.sun.source.tree.Tree;
import com.sun.source.tree.TryTree;
import com.sun.source.tree.VariableTree;
import com.sun.source.util.JavacTask;
import com.sun.source.util.SourcePositions;
import com.sun.source.util.TreeScanner;
import com.sun.source.util.Trees;
import java.nio.file.Path;
import java.util.List;
import java.util.Set;
import javax.lang.model.element.Modifier;
import javax.tools.JavaCompiler;
import javax.tools.StandardJavaFileManager;
import javax.tools.ToolProvider;

/** Rules of ../shared/LANGUAGE.md that can be read off the source's tree. */
public final class LanguageTest extends TreeScanner<Void, Void> {
  private static final Set<String> IMPORTS =
      Set.of("java.util.Arrays", "java.util.ArrayList", "java.util.List", "java.util.Iterator");
  private static final Set<String> LIBRARY = Set.of("Math.max", "Math.min", "Math.abs", "Integer.bitCount",
      "Arrays.fill", "Arrays.copyOf", "Arrays.copyOfRange", "System.arraycopy");
  private static final Set<String> LIBRARY_CLASSES =
      Set.of("Math", "Integer", "Long", "Arrays", "System", "String", "Thread", "Runtime", "Objects");

  private final CompilationUnitTree unit;
  private final SourcePositions places;
  private int classes = 0;
  private int methodsOpen = 0;

  private LanguageTest(CompilationUnitTree unit, SourcePositions places) {
    this.unit = unit;
    this.places = places;
  }

  public static void main(String[] args) throws java.io.IOException {
    JavaCompiler compiler = ToolProvider.getSystemJavaCompiler();
    try (StandardJavaFileManager files = compiler.getStandardFileManager(null, null, null)) {
      JavacTask task = (JavacTask) compiler.getTask(null, files, null, null, null,
          files.getJavaFileObjects(Path.of("src/main/java/StonePost.java")));
      for (CompilationUnitTree unit : task.parse()) {
        Due.isTrue("no package", unit.getPackage() == null);
        Due.is("classes of the file", unit.getTypeDecls().size(), 1);
        LanguageTest test = new LanguageTest(unit, Trees.instance(task).getSourcePositions());
        test.scan(unit, null);
        Due.isTrue("at most twelve classes", test.classes <= 12);
      }
    }
    Due.end();
  }

  private long line(long place) {
    return unit.getLineMap().getLineNumber(place);
  }

  private void refuse(Tree tree, int rule) {
    Due.isTrue("rule " + rule + ", line " + line(places.getStartPosition(unit, tree)) + ": " + tree.getKind(), false);
  }

  @Override
  public Void visitImport(ImportTree tree, Void none) {
    Due.isTrue("rule 4: " + tree, !tree.isStatic() && IMPORTS.contains(tree.getQualifiedIdentifier().toString()));
    return null;
  }

  @Override
  public Void visitClass(ClassTree tree, Void none) {
    classes++;
    Set<Modifier> flags = tree.getModifiers().getFlags();
    Due.isTrue("rule 2: " + tree.getSimpleName() + " stands in no method", methodsOpen == 0);
    Due.isTrue("rule 2: " + tree.getSimpleName() + " is static", classes == 1 || flags.contains(Modifier.STATIC));
    int fields = 0;
    for (Tree member : tree.getMembers()) {
      if (member instanceof BlockTree) {
        refuse(member, 5);
      }
      if (member instanceof VariableTree field) {
        boolean isStatic = field.getModifiers().getFlags().contains(Modifier.STATIC);
        fields += isStatic ? 0 : 1;
        Due.isTrue("rule 5: " + field.getName() + " is a constant",
            !isStatic || field.getModifiers().getFlags().contains(Modifier.FINAL));
      }
    }
    Due.isTrue("rule 11: twenty fields in " + tree.getSimpleName(), fields <= 20);
    return super.visitClass(tree, none);
  }

  @Override
  public Void visitMethod(MethodTree tree, Void none) {
    Due.isTrue("rule 11: parameters of " + tree.getName(), tree.getParameters().size() <= 7);
    Due.isTrue("rule 6: " + tree.getName(), tree.getThrows().isEmpty());
    Due.isTrue("rule 6: " + tree.getName() + " is of no object",
        !List.of("equals", "hashCode", "toString").contains(tree.getName().toString()));
    long lines = line(places.getEndPosition(unit, tree)) - line(places.getStartPosition(unit, tree)) + 1;
    Due.isTrue("rule 11: " + tree.getName() + " has " + lines + " lines", lines <= 60);
    methodsOpen++;
    super.visitMethod(tree, none);
    methodsOpen--;
    return null;
  }

  @Override
  public Void visitMemberSelect(MemberSelectTree tree, Void none) {
    if (LIBRARY_CLASSES.contains(tree.getExpression().toString())) {
      Due.isTrue("rule 4: " + tree, LIBRARY.contains(tree.toString()));
    }
    return super.visitMemberSelect(tree, none);
  }

  @Override
  public Void visitNewClass(NewClassTree tree, Void none) {
    if (tree.getClassBody() != null) {
      refuse(tree, 2);
    }
    return super.visitNewClass(tree, none);
  }

  @Override
  public Void visitLambdaExpression(LambdaExpressionTree tree, Void none) {
    refuse(tree, 2);
    return null;
  }

  @Override
  public Void visitMemberReference(MemberReferenceTree tree, Void none) {
    refuse(tree, 2);
    return null;
  }

  @Override
  public Void visitThrow(ThrowTree tree, Void none) {
    refuse(tree, 6);
    return null;
  }

  @Override
  public Void visitTry(TryTree tree, Void none) {
    refuse(tree, 6);
    return null;
  }

  @Override
  public Void visitSynchronized(SynchronizedTree tree, Void none) {
    refuse(tree, 6);
    return null;
  }

  @Override
  public Void visitAssert(AssertTree tree, Void none) {
    refuse(tree, 6);
    return null;
  }
}
