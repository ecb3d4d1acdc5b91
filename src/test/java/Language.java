import com.sun.source.tree.ArrayAccessTree;
import com.sun.source.tree.BinaryTree;
import com.sun.source.tree.ClassTree;
import com.sun.source.tree.CompilationUnitTree;
import com.sun.source.tree.CompoundAssignmentTree;
import com.sun.source.tree.ExpressionTree;
import com.sun.source.tree.ForLoopTree;
import com.sun.source.tree.LiteralTree;
import com.sun.source.tree.MemberSelectTree;
import com.sun.source.tree.MethodInvocationTree;
import com.sun.source.tree.MethodTree;
import com.sun.source.tree.NewArrayTree;
import com.sun.source.tree.NewClassTree;
import com.sun.source.tree.ThrowTree;
import com.sun.source.tree.Tree;
import com.sun.source.tree.Tree.Kind;
import com.sun.source.tree.TypeCastTree;
import com.sun.source.tree.VariableTree;
import com.sun.source.util.JavacTask;
import com.sun.source.util.TreePath;
import com.sun.source.util.TreePathScanner;
import com.sun.source.util.Trees;
import java.io.IOException;
import java.nio.file.Path;
import java.util.EnumSet;
import java.util.LinkedHashMap;
import java.util.LinkedHashSet;
import java.util.List;
import java.util.Map;
import java.util.Set;
import javax.lang.model.element.Element;
import javax.lang.model.element.ElementKind;
import javax.lang.model.element.ExecutableElement;
import javax.lang.model.element.Modifier;
import javax.lang.model.element.VariableElement;
import javax.lang.model.type.ArrayType;
import javax.lang.model.type.TypeKind;
import javax.lang.model.type.TypeMirror;
import javax.tools.JavaCompiler;
import javax.tools.StandardJavaFileManager;
import javax.tools.ToolProvider;

/**
 * The program's text against LANGUAGE.md, rule by rule, as far as a text alone can tell. It is stricter than the rules
 * where the program needs less than they allow, so a fault here may also say that this test must learn a new form.
 */
public final class Language extends TreePathScanner<Void, Void> {
    private static final Check T = new Check("Language");
    private static final Path PROGRAM = Path.of("src/main/java/RollupStore.java");

    private static final Set<Kind> SHUT_OUT = EnumSet.of(Kind.LAMBDA_EXPRESSION, Kind.MEMBER_REFERENCE, Kind.TRY, Kind.CATCH,
            Kind.SYNCHRONIZED, Kind.ASSERT, Kind.INSTANCE_OF, Kind.IMPORT, Kind.PACKAGE, Kind.WHILE_LOOP, Kind.DO_WHILE_LOOP,
            Kind.ENHANCED_FOR_LOOP, Kind.SWITCH, Kind.SWITCH_EXPRESSION, Kind.ANNOTATION, Kind.INTERFACE, Kind.ENUM, Kind.RECORD);
    private static final Set<String> LIBRARY = Set.of("Math.min", "Math.max", "System.arraycopy");
    private static final Set<String> NOT_OWN = Set.of("equals", "hashCode", "toString", "finalize", "clone");
    private static final Set<String> EXCEPTIONS = Set.of("IllegalStateException", "IllegalArgumentException",
            "IndexOutOfBoundsException");
    private static final Set<TypeKind> NUMBERS = EnumSet.of(TypeKind.INT, TypeKind.LONG, TypeKind.DOUBLE, TypeKind.BOOLEAN);

    /** Divisors that are no constants, each with what keeps it from being 0. */
    private static final Map<String, String> DIVISORS = Map.of(
            "average: Math.max(1, asked.count)", "at least 1",
            "ratePerHour: (double)(to - from)", "the empty window is refused before",
            "gaps: lengthOf(tier)", "one of three constants",
            "beginOf: lengthOf(tier)", "one of three constants",
            "needWindow: length", "compared with 1 in the same condition, before",
            "roundUp: length", "compared with 1 in the same expression, before",
            "valueBetween: seconds", "Math.max(1, ..)");

    private final Trees trees;
    private final CompilationUnitTree unit;
    private final Set<String> ownClasses = new LinkedHashSet<>();
    private final Map<Element, Set<Element>> calls = new LinkedHashMap<>();
    private Element method;
    private int loops;

    private Language(Trees trees, CompilationUnitTree unit) {
        this.trees = trees;
        this.unit = unit;
    }

    public static void main(String[] args) throws IOException {
        JavaCompiler compiler = ToolProvider.getSystemJavaCompiler();
        try (StandardJavaFileManager files = compiler.getStandardFileManager(null, null, null)) {
            JavacTask task = (JavacTask) compiler.getTask(null, files, null, List.of("-proc:none"), null,
                    files.getJavaFileObjects(PROGRAM));
            CompilationUnitTree unit = task.parse().iterator().next();
            task.analyze();
            new Language(Trees.instance(task), unit).hold();
        }
        T.end();
    }

    private void hold() {
        T.is("rule 1: classes of the file", () -> unit.getTypeDecls().size(), 1);
        T.is("rule 1: no package line", () -> unit.getPackageName(), null);
        T.is("rule 4: no import", () -> unit.getImports().size(), 0);
        nameClasses(unit.getTypeDecls().get(0));
        T.is("rule 11: at most 12 classes", () -> ownClasses.size() <= 12, true);
        scan(unit, null);
        for (Element called : calls.keySet()) {
            int depth = depthOf(called, new LinkedHashSet<>());
            T.is("rule 11: calls go at most 8 deep from " + called + ", not " + depth, () -> depth <= 8, true);
        }
    }

    private void nameClasses(Tree tree) {
        if (tree instanceof ClassTree inside) {
            ownClasses.add(inside.getSimpleName().toString());
            inside.getMembers().forEach(this::nameClasses);
        }
    }

    /** How many methods stand open at once, this one and the library's included. */
    private int depthOf(Element called, Set<Element> open) {
        boolean isNew = open.add(called);
        T.is("rule 8: " + called + " does not call itself", () -> isNew, true);
        int deepest = 0;
        for (Element next : isNew ? calls.getOrDefault(called, Set.of()) : Set.<Element>of()) {
            deepest = Math.max(deepest, depthOf(next, open));
        }
        open.remove(called);
        return deepest + 1;
    }

    @Override
    public Void scan(Tree tree, Void none) {
        if (tree != null) {
            T.is("rules 2, 6, 9: no " + tree.getKind() + at(tree), () -> SHUT_OUT.contains(tree.getKind()), false);
        }
        return super.scan(tree, none);
    }

    private String at(Tree tree) {
        long start = trees.getSourcePositions().getStartPosition(unit, tree);
        return start < 0 ? "" : ", line " + unit.getLineMap().getLineNumber(start);
    }

    private long lines(Tree tree) {
        long start = trees.getSourcePositions().getStartPosition(unit, tree);
        long end = trees.getSourcePositions().getEndPosition(unit, tree);
        return start < 0 || end < 0 ? 0 : unit.getLineMap().getLineNumber(end) - unit.getLineMap().getLineNumber(start) + 1;
    }

    private TypeMirror typeOf(Tree tree) {
        return trees.getTypeMirror(new TreePath(getCurrentPath(), tree));
    }

    @Override
    public Void visitClass(ClassTree inside, Void none) {
        Set<Modifier> flags = inside.getModifiers().getFlags();
        boolean isInside = getCurrentPath().getParentPath().getLeaf() != unit;
        T.is("rule 2: static, final and not public" + at(inside), () -> !isInside
                || flags.equals(EnumSet.of(Modifier.PRIVATE, Modifier.STATIC, Modifier.FINAL)), true);
        T.is("rule 2: no parent" + at(inside), () -> inside.getExtendsClause(), null);
        T.is("rule 2: no interface" + at(inside), () -> inside.getImplementsClause().size(), 0);
        long fields = inside.getMembers().stream().filter(this::isObjectsField).count();
        T.is("rule 11: at most 20 fields" + at(inside), () -> fields <= 20, true);
        T.is("rule 5: no initialiser block" + at(inside),
                () -> inside.getMembers().stream().anyMatch(member -> member.getKind() == Kind.BLOCK), false);
        return super.visitClass(inside, none);
    }

    private boolean isObjectsField(Tree member) {
        return member instanceof VariableTree field && !field.getModifiers().getFlags().contains(Modifier.STATIC);
    }

    @Override
    public Void visitVariable(VariableTree variable, Void none) {
        Element named = trees.getElement(getCurrentPath());
        T.is("rule 3: the type of " + variable.getName() + at(variable), () -> isAllowed(named.asType()), true);
        if (named.getModifiers().contains(Modifier.STATIC)) {
            T.is("rule 5: " + variable.getName() + " is a constant",
                    () -> ((VariableElement) named).getConstantValue() instanceof Integer, true);
        }
        return super.visitVariable(variable, none);
    }

    private boolean isAllowed(TypeMirror type) {
        if (type instanceof ArrayType row) {
            return row.getComponentType().getKind() != TypeKind.ARRAY && isAllowed(row.getComponentType());
        }
        return NUMBERS.contains(type.getKind()) || isOwn(type);
    }

    private boolean isOwn(TypeMirror type) {
        return type.getKind() == TypeKind.DECLARED && ownClasses.contains(type.toString().replaceAll(".*\\.", ""));
    }

    @Override
    public Void visitMethod(MethodTree here, Void none) {
        Element outer = method;
        method = trees.getElement(getCurrentPath());
        calls.computeIfAbsent(method, made -> new LinkedHashSet<>());
        T.is("rule 6: no own " + here.getName(), () -> NOT_OWN.contains(here.getName().toString()), false);
        T.is("rule 11: at most 7 parameters" + at(here), () -> here.getParameters().size() <= 7, true);
        T.is("rule 11: at most 60 lines" + at(here), () -> lines(here) <= 60, true);
        super.visitMethod(here, none);
        method = outer;
        return null;
    }

    @Override
    public Void visitMethodInvocation(MethodInvocationTree call, Void none) {
        Element called = trees.getElement(getCurrentPath());
        String owner = called.getEnclosingElement().getSimpleName().toString();
        boolean isOfObject = called.getKind() == ElementKind.CONSTRUCTOR && owner.equals("Object");
        T.is("rule 4: " + owner + "." + called.getSimpleName() + at(call), () -> isOfObject || ownClasses.contains(owner)
                || LIBRARY.contains(owner + "." + called.getSimpleName()), true);
        T.is("rule 3: no library call on doubles" + at(call), () -> owner.equals("Math")
                && ((ExecutableElement) called).getReturnType().getKind() == TypeKind.DOUBLE, false);
        calls.get(method).add(called);
        call.getArguments().forEach(this::isNoRow);
        return super.visitMethodInvocation(call, none);
    }

    @Override
    public Void visitNewClass(NewClassTree made, Void none) {
        isMadeOutsideLoops(made);
        String name = made.getIdentifier().toString();
        boolean isThrown = getCurrentPath().getParentPath().getLeaf().getKind() == Kind.THROW;
        T.is("rules 4, 6: new " + name + at(made), () -> isThrown ? EXCEPTIONS.contains(name) : ownClasses.contains(name), true);
        T.is("rule 2: " + name + " without a body" + at(made), () -> made.getClassBody(), null);
        if (method != null && !isThrown) {
            calls.get(method).add(trees.getElement(getCurrentPath()));
        }
        return super.visitNewClass(made, none);
    }

    @Override
    public Void visitNewArray(NewArrayTree made, Void none) {
        isMadeOutsideLoops(made);
        return super.visitNewArray(made, none);
    }

    private void isMadeOutsideLoops(Tree made) {
        T.is("rule 12: nothing is made in a loop" + at(made), () -> loops, 0);
    }

    @Override
    public Void visitThrow(ThrowTree thrown, Void none) {
        T.is("rule 6: no throw in a constructor" + at(thrown), () -> method.getKind(), ElementKind.METHOD);
        T.is("rule 6: new, with a written text" + at(thrown), () -> thrown.getExpression() instanceof NewClassTree made
                && made.getArguments().size() == 1 && made.getArguments().get(0).getKind() == Kind.STRING_LITERAL, true);
        return super.visitThrow(thrown, none);
    }

    @Override
    public Void visitForLoop(ForLoopTree loop, Void none) {
        T.is("rule 9: a loop tells where it begins, ends and how it goes on" + at(loop), () -> loop.getInitializer().size() + " "
                + (loop.getCondition() != null) + " " + loop.getUpdate().size(), "1 true 1");
        loops++;
        super.visitForLoop(loop, none);
        loops--;
        return null;
    }

    @Override
    public Void visitMemberSelect(MemberSelectTree select, Void none) {
        isNoRow(select.getExpression());
        return super.visitMemberSelect(select, none);
    }

    /** What a row of objects holds may be null, so it is only used behind a variable that was compared with null. */
    private void isNoRow(ExpressionTree used) {
        T.is("rule 7: " + used + " is not used straight from its row" + at(used),
                () -> used instanceof ArrayAccessTree && isOwn(typeOf(used)), false);
    }

    @Override
    public Void visitBinary(BinaryTree binary, Void none) {
        boolean isSum = binary.getKind() == Kind.PLUS;
        T.is("rule 10: no text is joined by +" + at(binary), () -> isSum
                && trees.getTypeMirror(getCurrentPath()).getKind() == TypeKind.DECLARED, false);
        if (binary.getKind() == Kind.DIVIDE || binary.getKind() == Kind.REMAINDER) {
            divisor(binary.getRightOperand());
        }
        return super.visitBinary(binary, none);
    }

    @Override
    public Void visitCompoundAssignment(CompoundAssignmentTree changed, Void none) {
        if (changed.getKind() == Kind.DIVIDE_ASSIGNMENT || changed.getKind() == Kind.REMAINDER_ASSIGNMENT) {
            divisor(changed.getExpression());
        }
        return super.visitCompoundAssignment(changed, none);
    }

    private void divisor(ExpressionTree divisor) {
        Element named = trees.getElement(new TreePath(getCurrentPath(), divisor));
        boolean isConstant = named instanceof VariableElement constant && constant.getConstantValue() instanceof Integer value && value > 0;
        String text = method.getSimpleName() + ": " + divisor;
        T.is("rule 7: the divisor is known in \"" + text + "\"" + at(divisor),
                () -> isConstant || DIVISORS.containsKey(text), true);
    }

    @Override
    public Void visitTypeCast(TypeCastTree cast, Void none) {
        T.is("rule 7: a cast of numbers alone" + at(cast), () -> NUMBERS.contains(typeOf(cast.getType()).getKind()), true);
        return super.visitTypeCast(cast, none);
    }

    @Override
    public Void visitLiteral(LiteralTree literal, Void none) {
        T.is("rule 4: signs 1 to 127" + at(literal), () -> !(literal.getValue() instanceof String text)
                || text.chars().allMatch(sign -> sign >= 1 && sign <= 127), true);
        return super.visitLiteral(literal, none);
    }
}
