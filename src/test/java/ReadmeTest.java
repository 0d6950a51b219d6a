import java.lang.reflect.Method;
import java.lang.reflect.Modifier;
import java.nio.file.Files;
import java.nio.file.Path;
import java.util.List;
import java.util.Map;
import java.util.TreeMap;
import java.util.regex.Matcher;
import java.util.regex.Pattern;

/** README.md shows calls with their answers: each answers so, and every call of the face is named. */
public final class ReadmeTest {
  private static final Due due = new Due("ReadmeTest");
  private static final String MAKES = "MilkHorse x = new MilkHorse();";
  private static final Pattern SHOWN = Pattern.compile("x\\.(\\w+)\\(([^;]*)\\); +// (-?\\d+):? .*");
  private static final Map<String, Method> FACE = new TreeMap<>();

  public static void main(String[] args) throws Exception {
    for (Method m : MilkHorse.class.getDeclaredMethods()) {
      if (Modifier.isPublic(m.getModifiers())) FACE.put(m.getName(), m);
    }
    String text = Files.readString(Path.of("README.md"));
    Matcher blocks = Pattern.compile("(?s)```java\n(.*?)```").matcher(text);
    int shown = 0;
    while (blocks.find()) shown += answersAsShown(blocks.group(1).lines().toList());
    due.holds("calls are shown", shown > 20);
    for (String name : FACE.keySet()) due.holds(name + " is named", text.contains("`" + name + "`"));
    due.holds("how all tests are run is told", text.contains(".ci/run"));
    due.end();
  }

  private static int answersAsShown(List<String> lines) throws Exception {
    due.holds("an example makes its object first", lines.get(0).equals(MAKES));
    MilkHorse x = new MilkHorse();
    for (String line : lines.subList(1, lines.size())) {
      Matcher call = SHOWN.matcher(line);
      boolean isCall = call.matches() && FACE.containsKey(call.group(1));
      due.holds("a call with its answer: " + line, isCall);
      if (!isCall) continue;
      Method m = FACE.get(call.group(1));
      String[] told = call.group(2).isEmpty() ? new String[0] : call.group(2).split(", ");
      Object[] arguments = new Object[told.length];
      for (int i = 0; i < told.length; i++) arguments[i] = number(told[i]);
      due.is(line, ((Number) m.invoke(x, arguments)).longValue(), Long.parseLong(call.group(3)));
    }
    return lines.size() - 1;
  }

  private static int number(String told) {
    if (told.equals("MilkHorse.NONE")) return MilkHorse.NONE;
    return told.startsWith("'") ? told.charAt(1) : Integer.parseInt(told);
  }
}
