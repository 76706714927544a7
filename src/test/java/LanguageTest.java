import com.sun.source.tree.*;
import com.sun.source.util.JavacTask;
import com.sun.source.util.TreePath;
import com.sun.source.util.TreePathScanner;
import com.sun.source.util.Trees;
import java.io.File;
import java.util.Arrays;
import java.util.HashMap;
import java.util.HashSet;
import java.util.List;
import java.util.Map;
import java.util.Set;
import java.util.TreeSet;
import javax.lang.model.element.Element;
import javax.lang.model.element.ElementKind;
import javax.lang.model.element.ExecutableElement;
import javax.lang.model.element.Modifier;
import javax.lang.model.element.TypeElement;
import javax.lang.model.type.TypeKind;
import javax.lang.model.type.TypeMirror;
import javax.tools.JavaCompiler;
import javax.tools.StandardJavaFileManager;
import javax.tools.ToolProvider;

/** Holds the source, as the compiler reads it, against ../shared/LANGUAGE.md (its rules stand in the findings). */
public final class LanguageTest extends TreePathScanner<Void, Void> {
    private static final String SOURCE = "src/main/java/KnitTreaty.java";
    private static final int DEEPEST = 8;
    private static final int LONGEST = 60;
    // What of the library the class uses; LANGUAGE.md leaves more.
    private static final Set<String> LIBRARY = new HashSet<>(Arrays.asList("String.length", "String.charAt",
            "Arrays.fill", "System.arraycopy", "Integer.bitCount", "Math.min", "Math.max", "Object.<init>"));
    private static final Set<TypeKind> NUMBERS = new HashSet<>(Arrays.asList(TypeKind.INT, TypeKind.LONG,
            TypeKind.SHORT, TypeKind.BYTE, TypeKind.CHAR, TypeKind.BOOLEAN));

    private final CompilationUnitTree unit;
    private final Trees trees;
    private final Map<Element, Set<Element>> calls = new HashMap<>();
    private final Map<Element, Integer> depths = new HashMap<>();
    private final Set<Element> open = new HashSet<>();
    private final Set<String> face = new HashSet<>();
    private final Set<String> found = new TreeSet<>();
    private ExecutableElement method = null;

    private LanguageTest(CompilationUnitTree unit, Trees trees) {
        this.unit = unit;
        this.trees = trees;
    }

    public static void main(String[] args) throws Exception {
        String source = args.length > 0 ? args[0] : SOURCE;
        JavaCompiler compiler = ToolProvider.getSystemJavaCompiler();
        StandardJavaFileManager files = compiler.getStandardFileManager(null, null, null);
        JavacTask task = (JavacTask) compiler.getTask(null, files, null, List.of("-proc:none"), null,
                files.getJavaFileObjects(new File(source)));
        CompilationUnitTree unit = task.parse().iterator().next();
        task.analyze();
        LanguageTest test = new LanguageTest(unit, Trees.instance(task));
        test.hold();
        files.close();
        for (String s : test.found) {
            System.out.println(s);
        }
        System.out.println(test.found.isEmpty() ? "the language is as due" : test.found.size() + " faults of the language");
        if (!test.found.isEmpty()) {
            System.exit(1);
        }
    }

    private void hold() {
        if (unit.getPackage() != null || unit.getTypeDecls().size() != 1) {
            found.add("one file, one class, no package");
        }
        for (Tree member : ((ClassTree) unit.getTypeDecls().get(0)).getMembers()) {
            if (member instanceof MethodTree && ((MethodTree) member).getModifiers().getFlags().contains(Modifier.PUBLIC)) {
                face.add(((MethodTree) member).getName().toString());
            }
        }
        scan(new TreePath(unit), null);
        for (Element e : calls.keySet()) {
            int deep = depth(e);
            if (deep > DEEPEST) {
                found.add("11. calls go " + deep + " deep from " + e);
            }
        }
    }

    /** How many calls stand open at once, this one too. */
    private int depth(Element e) {
        Integer known = depths.get(e);
        if (known != null) {
            return known;
        }
        if (!open.add(e)) {
            found.add("8. recursion by " + e);
            return 0;
        }
        int most = 0;
        for (Element other : calls.getOrDefault(e, Set.of())) {
            most = Math.max(most, depth(other));
        }
        open.remove(e);
        depths.put(e, most + 1);
        return most + 1;
    }

    private long line(long place) {
        return unit.getLineMap().getLineNumber(place);
    }

    private void odd(Tree t, String rule) {
        found.add("line " + line(trees.getSourcePositions().getStartPosition(unit, t)) + ": " + rule);
    }

    private boolean own(TypeMirror type) {
        Element e = type.getKind() == TypeKind.DECLARED ? ((javax.lang.model.type.DeclaredType) type).asElement() : null;
        return e != null && ownClass(e);
    }

    private static boolean ownClass(Element e) {
        return ((TypeElement) e).getQualifiedName().toString().startsWith("KnitTreaty");
    }

    private void type(Tree t, TypeMirror type) {
        TypeMirror of = type;
        int dimensions = 0;
        while (of.getKind() == TypeKind.ARRAY) {
            of = ((javax.lang.model.type.ArrayType) of).getComponentType();
            dimensions++;
        }
        boolean number = NUMBERS.contains(of.getKind());
        boolean fine = number ? dimensions <= 2 : own(of) ? dimensions <= 1
                : of.toString().equals("java.lang.String") && dimensions == 0;
        if (!fine) {
            odd(t, "3. the type " + type);
        }
    }

    // ---- what is declared

    @Override
    public Void visitClass(ClassTree t, Void p) {
        if (t.getKind() != Tree.Kind.CLASS || t.getSimpleName().length() == 0) {
            odd(t, "2. what is no plain class");
        }
        boolean outer = t.getSimpleName().contentEquals("KnitTreaty");
        Set<Modifier> flags = t.getModifiers().getFlags();
        if (!flags.contains(Modifier.FINAL) || flags.contains(Modifier.STATIC) == outer
                || flags.contains(Modifier.PUBLIC) != outer) {
            odd(t, "1. a class that is not as due");
        }
        for (Tree member : t.getMembers()) {
            if (member instanceof BlockTree) {
                odd(member, "5. an initialiser block");
            }
        }
        return super.visitClass(t, p);
    }

    @Override
    public Void visitMethod(MethodTree t, Void p) {
        ExecutableElement e = (ExecutableElement) trees.getElement(getCurrentPath());
        long begin = trees.getSourcePositions().getStartPosition(unit, t);
        long end = trees.getSourcePositions().getEndPosition(unit, t);
        if (end > begin && line(end) - line(begin) + 1 > LONGEST) {
            odd(t, "11. a long method");
        }
        if (t.getParameters().size() > 7) {
            odd(t, "11. too many parameters");
        }
        boolean ofFace = t.getModifiers().getFlags().contains(Modifier.PUBLIC);
        String name = t.getName().toString();
        if (!ofFace && !name.equals("<init>") && face.contains(name)) {
            odd(t, "1. a public one's name: " + name);
        }
        if (Set.of("equals", "hashCode", "toString").contains(name) || !t.getThrows().isEmpty()) {
            odd(t, "6. " + name);
        }
        calls.computeIfAbsent(e, k -> new HashSet<>());
        method = e;
        super.visitMethod(t, p);
        method = null;
        return null;
    }

    @Override
    public Void visitVariable(VariableTree t, Void p) {
        Element e = trees.getElement(getCurrentPath());
        type(t, e.asType());
        boolean field = e.getKind() == ElementKind.FIELD;
        if (field && e.getModifiers().contains(Modifier.STATIC)) {
            boolean constant = ((javax.lang.model.element.VariableElement) e).getConstantValue() != null;
            boolean written = t.getInitializer() instanceof NewArrayTree
                    && ((NewArrayTree) t.getInitializer()).getInitializers() != null;
            if (!e.getModifiers().contains(Modifier.FINAL) || !constant && !written) {
                odd(t, "5. static and no constant");
            }
        }
        return super.visitVariable(t, p);
    }

    // ---- what is called and made

    private void called(Tree t, Element e) {
        if (!(e instanceof ExecutableElement)) {
            return;
        }
        TypeElement of = (TypeElement) e.getEnclosingElement();
        if (ownClass(of)) {
            if (method != null) {
                calls.computeIfAbsent(method, k -> new HashSet<>()).add(e);
            }
        } else if (!LIBRARY.contains(of.getSimpleName() + "." + e.getSimpleName())) {
            odd(t, "4. " + of + "." + e);
        }
    }

    @Override
    public Void visitMethodInvocation(MethodInvocationTree t, Void p) {
        called(t, trees.getElement(getCurrentPath()));
        return super.visitMethodInvocation(t, p);
    }

    /** All is made when the object is made; the room is counted so. */
    private void made(Tree t) {
        if (method != null && method.getKind() != ElementKind.CONSTRUCTOR) {
            odd(t, "12. made by a call");
        }
    }

    @Override
    public Void visitNewClass(NewClassTree t, Void p) {
        made(t);
        called(t, trees.getElement(getCurrentPath()));
        if (t.getClassBody() != null) {
            odd(t, "2. an anonymous class");
        }
        return super.visitNewClass(t, p);
    }

    @Override
    public Void visitNewArray(NewArrayTree t, Void p) {
        made(t);
        return super.visitNewArray(t, p);
    }

    // ---- what may not stand at all

    private Void never(Tree t, String what) {
        odd(t, what);
        return null;
    }

    @Override
    public Void visitLambdaExpression(LambdaExpressionTree t, Void p) {
        return never(t, "2. a lambda");
    }

    @Override
    public Void visitMemberReference(MemberReferenceTree t, Void p) {
        return never(t, "2. a method reference");
    }

    @Override
    public Void visitTry(TryTree t, Void p) {
        return never(t, "6. a try: the document tells no exception");
    }

    @Override
    public Void visitThrow(ThrowTree t, Void p) {
        return never(t, "6. a throw: the document tells no exception");
    }

    @Override
    public Void visitAssert(AssertTree t, Void p) {
        return never(t, "6. assert");
    }

    @Override
    public Void visitSynchronized(SynchronizedTree t, Void p) {
        return never(t, "6. synchronized");
    }

    @Override
    public Void visitSwitchExpression(SwitchExpressionTree t, Void p) {
        return never(t, "10. a switch that answers");
    }

    @Override
    public Void visitInstanceOf(InstanceOfTree t, Void p) {
        return never(t, "6. instanceof, where no class has a kind below it");
    }

    @Override
    public Void visitTypeCast(TypeCastTree t, Void p) {
        if (t.getType().getKind() != Tree.Kind.PRIMITIVE_TYPE) {
            odd(t, "7. a cast that may throw");
        }
        return super.visitTypeCast(t, p);
    }

    @Override
    public Void visitEnhancedForLoop(EnhancedForLoopTree t, Void p) {
        TypeMirror of = trees.getTypeMirror(new TreePath(getCurrentPath(), t.getExpression()));
        if (of.getKind() != TypeKind.ARRAY) {
            odd(t, "12. a for over what is no array");
        }
        return super.visitEnhancedForLoop(t, p);
    }

    @Override
    public Void visitLiteral(LiteralTree t, Void p) {
        if (t.getValue() instanceof Double || t.getValue() instanceof Float) {
            odd(t, "3. no FRACTION needs it");
        }
        return super.visitLiteral(t, p);
    }

    private void joined(Tree t) {
        TypeMirror of = trees.getTypeMirror(getCurrentPath());
        if (of != null && of.getKind() == TypeKind.DECLARED) {
            odd(t, "10. texts joined by +");
        }
    }

    @Override
    public Void visitCompoundAssignment(CompoundAssignmentTree t, Void p) {
        joined(t);
        divided(t, t.getKind() == Tree.Kind.DIVIDE_ASSIGNMENT || t.getKind() == Tree.Kind.REMAINDER_ASSIGNMENT,
                t.getExpression());
        return super.visitCompoundAssignment(t, p);
    }

    @Override
    public Void visitBinary(BinaryTree t, Void p) {
        joined(t);
        divided(t, t.getKind() == Tree.Kind.DIVIDE || t.getKind() == Tree.Kind.REMAINDER, t.getRightOperand());
        return super.visitBinary(t, p);
    }

    /** A divisor is a number written out, or a name that is held against 0 in the same method. */
    private void divided(Tree t, boolean divides, ExpressionTree by) {
        if (!divides || by.getKind() == Tree.Kind.INT_LITERAL && !by.toString().equals("0")) {
            return;
        }
        TreePath at = getCurrentPath();
        while (at != null && at.getLeaf().getKind() != Tree.Kind.METHOD) {
            at = at.getParentPath();
        }
        String body = at == null ? "" : at.getLeaf().toString();
        if (!body.contains(by + " != 0") && !body.contains(by + " > 0")) {
            odd(t, "7. a divisor that nobody looked at: " + by);
        }
    }
}
