import com.sun.source.tree.CompilationUnitTree;
import com.sun.source.tree.ExpressionTree;
import com.sun.source.tree.IdentifierTree;
import com.sun.source.tree.MethodInvocationTree;
import com.sun.source.tree.MethodTree;
import com.sun.source.util.JavacTask;
import com.sun.source.util.TreeScanner;
import java.io.File;
import java.io.IOException;
import java.util.List;
import java.util.Map;
import java.util.TreeMap;
import java.util.TreeSet;
import javax.lang.model.element.Modifier;
import javax.tools.JavaCompiler;
import javax.tools.StandardJavaFileManager;
import javax.tools.ToolProvider;

/** Reads the class's source and looks at what LANGUAGE.md says of calls (rules 8 and 10). */
public final class RuleTests {
    private static final String SOURCE = "src/main/java/WorstWalk.java";
    private static final int MOST_CALLS = 6;
    private static final int MOST_PARAMETERS = 7;

    private final Map<String, TreeSet<String>> calls = new TreeMap<>();
    private final TreeSet<String> openMethods = new TreeSet<>();
    private int wrong = 0;

    public static void main(String[] args) throws IOException {
        RuleTests test = new RuleTests();
        test.read();
        for (String method : test.openMethods) {
            test.follow(method, method, 0);
        }
        System.out.println(test.wrong == 0 ? "the rules on calls are kept" : "a rule is broken");
        if (test.wrong != 0) {
            System.exit(1);
        }
    }

    private void tell(String fault) {
        wrong++;
        System.out.println(fault);
    }

    private void read() throws IOException {
        JavaCompiler compiler = ToolProvider.getSystemJavaCompiler();
        StandardJavaFileManager files = compiler.getStandardFileManager(null, null, null);
        var units = files.getJavaFileObjects(new File(SOURCE));
        JavacTask task = (JavacTask) compiler.getTask(null, files, null, null, null, units);
        for (CompilationUnitTree unit : task.parse()) {
            new Reader().scan(unit, null);
        }
        if (openMethods.isEmpty()) {
            tell("no public method was found in " + SOURCE);
        }
    }

    /** Goes every chain of calls from a public method; a chain that is too deep is not gone on. */
    private void follow(String method, String chain, int depth) {
        if (depth > MOST_CALLS) {
            tell("rule 10: calls go more than " + MOST_CALLS + " deep: " + chain);
            return;
        }
        for (String called : calls.getOrDefault(method, new TreeSet<>())) {
            if (List.of(chain.split(" ")).contains(called)) {
                tell("rule 8: recursion: " + chain + " " + called);
            } else {
                follow(called, chain + " " + called, depth + 1);
            }
        }
    }

    /** Methods are told apart by their names alone, so two may not bear one name. */
    private final class Reader extends TreeScanner<Void, Void> {
        private String method = "";
        private boolean inArguments = false;

        @Override
        public Void visitMethod(MethodTree tree, Void none) {
            method = tree.getName().toString();
            if (calls.put(method, new TreeSet<>()) != null) {
                tell("rule 1: two methods bear the name " + method);
            }
            if (tree.getModifiers().getFlags().contains(Modifier.PUBLIC)) {
                openMethods.add(method);
            }
            if (tree.getParameters().size() > MOST_PARAMETERS) {
                tell("rule 10: " + method + " takes too many parameters");
            }
            return super.visitMethod(tree, none);
        }

        @Override
        public Void visitMethodInvocation(MethodInvocationTree tree, Void none) {
            ExpressionTree called = tree.getMethodSelect();
            if (inArguments) {
                tell("rule 10: in " + method + ", " + tree + " stands in a call's arguments");
            }
            if (called instanceof IdentifierTree) {
                calls.get(method).add(called.toString());
            } else {
                tell("rule 3: in " + method + ", " + tree + " calls another class");
            }
            boolean outer = inArguments;
            inArguments = true;
            scan(tree.getArguments(), none);
            inArguments = outer;
            return null;
        }
    }
}
