import com.sun.source.tree.CompilationUnitTree;
import com.sun.source.tree.MemberSelectTree;
import com.sun.source.tree.MethodInvocationTree;
import com.sun.source.tree.MethodTree;
import com.sun.source.tree.NewClassTree;
import com.sun.source.util.JavacTask;
import com.sun.source.util.TreePathScanner;
import com.sun.source.util.Trees;
import java.lang.reflect.Constructor;
import java.lang.reflect.Field;
import java.lang.reflect.Method;
import java.lang.reflect.Modifier;
import java.nio.file.Files;
import java.nio.file.Path;
import java.util.HashSet;
import java.util.List;
import java.util.Map;
import java.util.Set;
import java.util.TreeMap;
import java.util.TreeSet;
import java.util.function.Function;
import java.util.regex.Matcher;
import java.util.regex.Pattern;
import javax.lang.model.element.Element;
import javax.lang.model.element.ElementKind;
import javax.tools.JavaCompiler;
import javax.tools.StandardJavaFileManager;
import javax.tools.ToolProvider;

/** The class looks as the document's face does, and the rules of the language that can be looked up here hold. */
public final class FaceTest {
  private static final Due due = new Due("FaceTest");

  private static final List<String> FACE = List.of("int type(int,int)", "int wipe(int)", "int undo(int)",
      "int fault(int)", "int told(int,int)", "int round(int)", "int set(int,int)", "int event(int,int,int)",
      "int back()", "int read(int)", "int at(int,int)", "int door(int,int,int)", "int done(int)", "int sum(int)",
      "int over()", "int lacks()", "int better(int)", "int fit(int)", "int swap(int)", "int spare(int)",
      "int seen(int,int)", "int forget()", "int never()", "int numbers(int)", "int might(int)", "int ask()",
      "long chance(int,int,int)", "int mornings(int,int,int)", "int sheet(int,int,int)", "int lose(int)",
      "int put(int,int,int,int)", "int get(int,int,int)", "int copy(int,int,int,int,int)", "int write(int,int)",
      "int count(int)", "long digest()");

  /** What of rule 4 the program has a use for so far; Array.length is the length of a row. */
  private static final Set<String> LIBRARY = Set.of("Array.length", "java.lang.Integer.bitCount",
      "java.lang.Math.abs", "java.lang.Math.max", "java.lang.Math.min", "java.lang.System.arraycopy",
      "java.util.Arrays.fill");

  public static void main(String[] args) throws Exception {
    members();
    classesInside();
    words();
    methodsAreShort();
    callsAreNotDeep();
    libraryIsWhatTheRulesList();
    due.end();
  }

  private static void members() {
    Class<?> c = MilkHorse.class;
    due.holds("public and final", Modifier.isPublic(c.getModifiers()) && Modifier.isFinal(c.getModifiers()));
    Set<String> found = new TreeSet<>();
    Set<String> names = new HashSet<>();
    for (Method m : c.getDeclaredMethods()) {
      if (m.isSynthetic() || Modifier.isPrivate(m.getModifiers())) continue;
      StringBuilder s = new StringBuilder(m.getReturnType() + " " + m.getName() + "(");
      for (Class<?> p : m.getParameterTypes()) s.append(s.charAt(s.length() - 1) == '(' ? "" : ",").append(p);
      found.add(s.append(")").toString());
      names.add(m.getName());
      due.holds(m + " is public, of an object", m.getModifiers() == Modifier.PUBLIC);
    }
    due.holds("the face: " + found, found.equals(new TreeSet<>(FACE)));
    privateNames(c, names);
    for (Class<?> in : c.getDeclaredClasses()) privateNames(in, names);
    Constructor<?>[] made = c.getDeclaredConstructors();
    due.holds("one constructor", made.length == 1 && Modifier.isPublic(made[0].getModifiers())
        && made[0].getParameterCount() == 0);
    int constants = 0;
    int own = 0;
    for (Field f : c.getDeclaredFields()) {
      if (Modifier.isPrivate(f.getModifiers())) {
        if (!Modifier.isStatic(f.getModifiers())) own++;
        due.holds(f + " static means final", !Modifier.isStatic(f.getModifiers()) || Modifier.isFinal(f.getModifiers()));
      } else {
        constants++;
        due.holds(f + " is a constant", Set.of("NONE", "BAD", "NOT", "FULL").contains(f.getName()));
      }
    }
    due.is("constants", constants, 4);
    due.holds("some twenty fields", own <= 20);
  }

  private static void privateNames(Class<?> c, Set<String> face) {
    for (Method m : c.getDeclaredMethods()) {
      if (c == MilkHorse.class && !Modifier.isPrivate(m.getModifiers())) continue;
      due.holds(m + " bears the name of a public one", !face.contains(m.getName()));
    }
  }

  private static void classesInside() {
    Class<?>[] inside = MilkHorse.class.getDeclaredClasses();
    due.holds("some twelve classes", inside.length <= 11);
    for (Class<?> c : inside) {
      due.holds(c + " is static", Modifier.isStatic(c.getModifiers()));
      due.holds(c + " is not public", !Modifier.isPublic(c.getModifiers()) && !Modifier.isProtected(c.getModifiers()));
      int fields = 0;
      for (Field f : c.getDeclaredFields()) if (!Modifier.isStatic(f.getModifiers())) fields++;
      due.holds(c + " has some twenty fields", fields <= 20);
      for (Method m : c.getDeclaredMethods()) due.holds(m + " takes seven", m.getParameterCount() <= 7);
    }
  }

  private static String source() throws Exception {
    String s = Files.readString(Path.of("src/main/java/MilkHorse.java"));
    return s.replaceAll("(?s)/\\*.*?\\*/", "").replaceAll("//[^\n]*", "");
  }

  private static void words() throws Exception {
    String s = source();
    for (String word : List.of("throw", "throws", "try", "catch", "synchronized", "assert", "package", "protected",
        "Exact", "System\\.(?!arraycopy)\\w+", "->", "::", "Random", "Thread", "hashCode", "toString", "var", "record",
        "while", "Object", "Iterator")) {
      String pattern = word.matches("\\w+") ? "\\b" + word + "\\b" : word;
      due.holds("no " + word, !Pattern.compile(pattern).matcher(s).find());
    }
    Matcher imports = Pattern.compile("import ([^;]*);").matcher(s);
    while (imports.find()) due.holds("import " + imports.group(1), imports.group(1).equals("java.util.Arrays"));
    due.holds("signs 1 to 127", s.chars().allMatch(c -> c >= 1 && c <= 127));
  }

  private static void methodsAreShort() throws Exception {
    Pattern heads = Pattern.compile("^( {4}| {8})(?!if|for|else|switch|private static final class|public final class)"
        + "[a-zA-Z]\\w*.*\\) \\{$");
    String[] lines = source().split("\n");
    int methods = 0;
    for (int i = 0; i < lines.length; i++) {
      Matcher head = heads.matcher(lines[i]);
      if (!head.matches()) continue;
      int end = i;
      while (end < lines.length && !lines[end].equals(head.group(1) + "}")) end++;
      due.holds(lines[i].trim() + " is short", end - i <= 60);
      methods++;
    }
    due.holds("methods were found", methods > FACE.size());
  }

  /** Rule 4: of the library only the functions that it lists; a constant such as the least int is not among them. */
  private static void libraryIsWhatTheRulesList() throws Exception {
    Set<String> used = new TreeSet<>();
    scan(trees -> new LibraryScanner(trees, used));
    due.holds("uses of the library were found", !used.isEmpty());
    for (String name : used) due.holds(name + " is in rule 4", LIBRARY.contains(name));
  }

  /** Rule 11: calls go eight deep at most, those of the library among them; none of them is a recursion. */
  private static void callsAreNotDeep() throws Exception {
    Map<String, Set<String>> calls = callsOfEachMethod();
    due.holds("calls were found", calls.size() > FACE.size());
    for (String method : calls.keySet()) {
      String deepest = deepest(method, calls, 12);
      due.holds(deepest + " is eight deep at most", deepest.split(" > ").length <= 8);
    }
  }

  private static String deepest(String method, Map<String, Set<String>> calls, int most) {
    String best = "";
    int deep = 0;
    if (most > 0) {
      for (String called : calls.getOrDefault(method, Set.of())) {
        String chain = deepest(called, calls, most - 1);
        int length = chain.split(" > ").length;
        if (length > deep) best = " > " + chain;
        deep = Math.max(deep, length);
      }
    }
    return method + best;
  }

  private static Map<String, Set<String>> callsOfEachMethod() throws Exception {
    Map<String, Set<String>> calls = new TreeMap<>();
    scan(trees -> new CallScanner(trees, calls));
    return calls;
  }

  private static void scan(Function<Trees, TreePathScanner<Void, String>> scannerOf) throws Exception {
    JavaCompiler compiler = ToolProvider.getSystemJavaCompiler();
    try (StandardJavaFileManager files = compiler.getStandardFileManager(null, null, null)) {
      JavacTask task = (JavacTask) compiler.getTask(null, files, null, List.of("-proc:none"), null,
          files.getJavaFileObjects(Path.of("src/main/java/MilkHorse.java")));
      Iterable<? extends CompilationUnitTree> units = task.parse();
      task.analyze();
      TreePathScanner<Void, String> scanner = scannerOf.apply(Trees.instance(task));
      for (CompilationUnitTree unit : units) scanner.scan(unit, null);
    }
  }

  /** Takes down which fields and functions of other classes than the program's own are named. */
  private static final class LibraryScanner extends TreePathScanner<Void, String> {
    private final Trees trees;
    private final Set<String> used;

    LibraryScanner(Trees trees, Set<String> used) {
      this.trees = trees;
      this.used = used;
    }

    @Override
    public Void visitMemberSelect(MemberSelectTree tree, String in) {
      Element e = trees.getElement(getCurrentPath());
      if (e != null && (e.getKind().isField() || e.getKind() == ElementKind.METHOD)) {
        String owner = e.getEnclosingElement().toString();
        if (!owner.startsWith("MilkHorse")) used.add(owner + "." + e.getSimpleName());
      }
      return super.visitMemberSelect(tree, in);
    }
  }

  /** Takes down which methods each method calls; what it goes through carries the method's name. */
  private static final class CallScanner extends TreePathScanner<Void, String> {
    private final Trees trees;
    private final Map<String, Set<String>> calls;

    CallScanner(Trees trees, Map<String, Set<String>> calls) {
      this.trees = trees;
      this.calls = calls;
    }

    @Override
    public Void visitMethod(MethodTree tree, String in) {
      String name = nameHere();
      calls.putIfAbsent(name, new TreeSet<>());
      return super.visitMethod(tree, name);
    }

    @Override
    public Void visitMethodInvocation(MethodInvocationTree tree, String in) {
      if (in != null) calls.get(in).add(nameHere());
      return super.visitMethodInvocation(tree, in);
    }

    @Override
    public Void visitNewClass(NewClassTree tree, String in) {
      if (in != null) calls.get(in).add(nameHere());
      return super.visitNewClass(tree, in);
    }

    private String nameHere() {
      Element e = trees.getElement(getCurrentPath());
      return e.getEnclosingElement().getSimpleName() + "." + e;
    }
  }
}
