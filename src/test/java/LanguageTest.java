import com.sun.source.tree.BlockTree;
import com.sun.source.tree.ClassTree;
import com.sun.source.tree.ForLoopTree;
import com.sun.source.tree.ImportTree;
import com.sun.source.tree.MethodTree;
import com.sun.source.tree.Tree;
import com.sun.source.tree.VariableTree;
import com.sun.source.tree.WhileLoopTree;
import com.sun.source.util.TreePath;
import java.io.IOException;
import java.nio.file.Path;
import java.util.HashMap;
import java.util.HashSet;
import java.util.List;
import java.util.Map;
import java.util.Set;
import java.util.TreeSet;
import javax.lang.model.element.Element;
import javax.lang.model.element.Modifier;

/** The rules of LANGUAGE.md, by their numbers, as far as the class's source and its objects show them. */
public final class LanguageTest {
    private static final Set<String> LIBRARY = Set.of(
        "java.util.Arrays.fill", "java.util.Arrays.copyOf", "java.util.Arrays.copyOfRange",
        "java.lang.System.arraycopy", "java.lang.Integer.bitCount", "java.lang.Math.max", "java.lang.Math.min",
        "java.lang.Math.abs", "java.lang.Math.floorMod", "java.lang.Math.floorDiv", "java.lang.Object.<init>");
    private static final Source SOURCE = read();

    public static void main(String[] args) throws IllegalAccessException {
        Due.runAll(LanguageTest.class);
    }

    private static Source read() {
        try {
            return Source.read(Path.of("src/main/java/TermLodgings.java"));
        } catch (IOException e) {
            throw new IllegalStateException("the class's source can't be read", e);
        }
    }

    private static void holds(String what, TreePath part, boolean is) {
        Due.due(what + ", line " + SOURCE.line(part.getLeaf()), is ? 1 : 0, 1);
    }

    private static void none(String rule, Tree.Kind first, Tree.Kind... others) {
        for (TreePath part : SOURCE.ofKinds(first, others)) {
            holds(rule + " no " + part.getLeaf().getKind(), part, false);
        }
    }

    private static List<TreePath> classes() {
        return SOURCE.ofKinds(Tree.Kind.CLASS, Tree.Kind.ENUM, Tree.Kind.RECORD, Tree.Kind.INTERFACE);
    }

    private static List<TreePath> methods() {
        return SOURCE.ofKinds(Tree.Kind.METHOD);
    }

    private static boolean has(TreePath part, Modifier modifier) {
        return SOURCE.named(part).getModifiers().contains(modifier);
    }

    private static boolean isOwn(String type) {
        return type.equals("TermLodgings") || type.startsWith("TermLodgings.");
    }

    // ---- 1 the face

    static void noInnerMethodBearsAPublicName() {
        Set<String> face = new TreeSet<>();
        for (TreePath method : methods()) {
            if (has(method, Modifier.PUBLIC)) {
                face.add(nameOf(method));
            }
        }
        for (TreePath method : methods()) {
            boolean isFace = has(method, Modifier.PUBLIC) || nameOf(method).equals("<init>");
            holds("1 " + nameOf(method) + " bears another name", method, isFace || !face.contains(nameOf(method)));
        }
    }

    private static String nameOf(TreePath method) {
        return ((MethodTree) method.getLeaf()).getName().toString();
    }

    static void innerClassesAreHiddenAndStatic() {
        for (TreePath part : classes()) {
            boolean inner = Source.isMemberOfAClass(part);
            holds("1 hidden", part, !inner || !(has(part, Modifier.PUBLIC) || has(part, Modifier.PROTECTED)));
            holds("2 static", part, !inner || has(part, Modifier.STATIC));
        }
    }

    // ---- 2 classes inside

    static void noLocalClassAndNoLambda() {
        none("2", Tree.Kind.LAMBDA_EXPRESSION, Tree.Kind.MEMBER_REFERENCE);
        for (TreePath part : classes()) {
            boolean outer = part.getParentPath().getLeaf().getKind() == Tree.Kind.COMPILATION_UNIT;
            holds("2 a class stands in a class", part, outer || Source.isMemberOfAClass(part));
        }
    }

    // ---- 3 types

    static void onlyTypesThatAreListed() {
        for (TreePath part : SOURCE.ofKinds(Tree.Kind.VARIABLE)) {
            String type = SOURCE.type(part).toString();
            boolean number = type.matches("(int|long|short|byte|char|boolean)(\\[\\]){0,2}");
            boolean own = isOwn(type) && !type.endsWith("[][]");
            holds("3 the type " + type, part, number || own || type.equals("java.lang.String"));
        }
    }

    // ---- 4 the library, 13 no clock, no randomness

    static void onlyTheLibraryThatIsListed() {
        for (TreePath call : SOURCE.ofKinds(Tree.Kind.METHOD_INVOCATION, Tree.Kind.NEW_CLASS)) {
            Element called = SOURCE.named(call);
            String owner = called.getEnclosingElement().toString();
            String name = owner + "." + called.getSimpleName();
            holds("4 the call of " + name, call, isOwn(owner) || LIBRARY.contains(name));
        }
        for (TreePath part : SOURCE.ofKinds(Tree.Kind.IMPORT)) {
            String imported = ((ImportTree) part.getLeaf()).getQualifiedIdentifier().toString();
            holds("4 the import of " + imported, part, imported.matches("java\\.util\\.(Arrays|ArrayList|List)"));
        }
        none("4", Tree.Kind.PACKAGE);
    }

    // ---- 5 static fields

    static void staticFieldsAreFinalConstants() {
        for (TreePath part : SOURCE.ofKinds(Tree.Kind.VARIABLE)) {
            if (Source.isMemberOfAClass(part) && has(part, Modifier.STATIC)) {
                String type = SOURCE.type(part).toString();
                boolean constant = type.matches("int|long|boolean|char|java.lang.String|(int|long|char|byte)\\[\\]");
                holds("5 a constant of " + type, part, constant);
                holds("5 it is final", part, has(part, Modifier.FINAL));
            }
        }
        for (TreePath part : SOURCE.ofKinds(Tree.Kind.BLOCK)) {
            boolean initialiser = Source.isMemberOfAClass(part) && ((BlockTree) part.getLeaf()).isStatic();
            holds("5 no static block", part, !initialiser);
        }
    }

    // ---- 6 what is left out

    static void nothingThrowsOrCatches() {
        none("6", Tree.Kind.THROW, Tree.Kind.TRY, Tree.Kind.CATCH, Tree.Kind.SYNCHRONIZED, Tree.Kind.ASSERT,
            Tree.Kind.BINDING_PATTERN, Tree.Kind.TYPE_CAST, Tree.Kind.INSTANCE_OF);
    }

    // ---- 8 recursion, 11 calls go at most eight deep

    static void callsGoAtMostEightDeep() {
        Map<Element, Set<Element>> calls = new HashMap<>();
        for (TreePath call : SOURCE.ofKinds(Tree.Kind.METHOD_INVOCATION, Tree.Kind.NEW_CLASS)) {
            TreePath caller = Source.methodAround(call);
            if (caller != null) {
                calls.computeIfAbsent(SOURCE.named(caller), key -> new HashSet<>()).add(SOURCE.named(call));
            }
        }
        for (TreePath method : methods()) {
            int depth = depth(SOURCE.named(method), calls, 1);
            holds("8, 11 " + SOURCE.named(method) + " goes " + depth + " deep", method, depth <= 8);
        }
    }

    /** How many calls stand open at most from a method on; a method that calls itself goes deeper than any bound. */
    private static int depth(Element method, Map<Element, Set<Element>> calls, int above) {
        int deepest = above;
        for (Element called : calls.getOrDefault(method, Set.of())) {
            if (above < 20) {
                deepest = Math.max(deepest, depth(called, calls, above + 1));
            }
        }
        return deepest;
    }

    // ---- 9 loops

    static void everyLoopHasABound() {
        none("9", Tree.Kind.DO_WHILE_LOOP);
        for (TreePath part : SOURCE.ofKinds(Tree.Kind.FOR_LOOP)) {
            ForLoopTree loop = (ForLoopTree) part.getLeaf();
            String bound = "" + loop.getCondition();
            holds("9 a bound in " + bound, part, bound.matches(".*\\b\\w+ (<|<=|>=) .*"));
            holds("9 a counter", part, loop.getUpdate().toString().matches("\\w+(\\+\\+|--);"));
        }
        for (TreePath part : SOURCE.ofKinds(Tree.Kind.WHILE_LOOP)) {
            WhileLoopTree loop = (WhileLoopTree) part.getLeaf();
            String counter = loop.getCondition().toString().replaceAll(".*\\b(\\w+) < [A-Z_]+.*", "$1");
            holds("9 a bound", part, counter.matches("\\w+"));
            holds("9 a counter", part, loop.getStatement().toString().contains(counter + "++"));
        }
    }

    // ---- 10 texts are joined by no +

    static void noTextIsJoinedByPlus() {
        for (TreePath part : SOURCE.ofKinds(Tree.Kind.PLUS, Tree.Kind.PLUS_ASSIGNMENT)) {
            holds("10 a sum of numbers", part, SOURCE.type(part).getKind().isPrimitive());
        }
    }

    // ---- 11 sizes

    static void methodsAreShort() {
        for (TreePath part : methods()) {
            MethodTree method = (MethodTree) part.getLeaf();
            holds("11 parameters of " + method.getName(), part, method.getParameters().size() <= 7);
            holds("11 lines of " + method.getName(), part, SOURCE.lines(method) <= 60);
        }
    }

    static void classesAreFewAndSmall() {
        Due.due("11 at most twelve classes", classes().size() <= 12 ? 1 : 0, 1);
        for (TreePath part : classes()) {
            int fields = 0;
            for (Tree member : ((ClassTree) part.getLeaf()).getMembers()) {
                boolean field = member instanceof VariableTree;
                fields += field && !has(new TreePath(part, member), Modifier.STATIC) ? 1 : 0;
            }
            holds("11 at most twenty fields", part, fields <= 20);
        }
    }

    // ---- 12 what is made

    static void onlyConstructorsMakeObjects() {
        for (TreePath part : SOURCE.ofKinds(Tree.Kind.NEW_CLASS, Tree.Kind.NEW_ARRAY)) {
            TreePath method = Source.methodAround(part);
            boolean withItsOwner = method == null || nameOf(method).equals("<init>");
            holds("12 made with its owner", part, withItsOwner);
        }
    }

    static void anObjectIsSmallAndDoesNotGrow() throws IllegalAccessException {
        Size empty = Size.of(Towns.NEW.made());
        Size full = Size.of(Towns.FULL.made());
        Due.due("12 whether " + empty.objects() + " objects are few", empty.objects() <= 60 ? 1 : 0, 1);
        Due.due("12 whether " + empty.elements() + " elements are few", empty.elements() <= 3000 ? 1 : 0, 1);
        Due.due("12 objects of a full one", full.objects(), empty.objects());
        Due.due("12 fields and elements of a full one", full.elements(), empty.elements());
    }
}
