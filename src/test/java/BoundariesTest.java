import java.util.List;
import java.util.Map;
import java.util.TreeMap;

/** Runs the tests of boundaries, section by section, and holds that every promise has some. */
public final class BoundariesTest {
  private static final int PROMISES = 37;
  private static final List<Class<? extends Boundaries>> SECTIONS = List.of(TellingBoundaries.class,
      MinutesBoundaries.class, PlansBoundaries.class, SeenBoundaries.class, SheetsBoundaries.class);

  public static void main(String[] args) throws IllegalAccessException {
    Map<Integer, Integer> all = new TreeMap<>();
    for (Class<? extends Boundaries> section : SECTIONS) {
      Boundaries.runAll(section).forEach((promise, many) -> all.merge(promise, many, Integer::sum));
    }
    int tests = 0;
    for (int promise = 1; promise <= PROMISES; promise++) {
      int many = all.getOrDefault(promise, 0);
      if (many == 0) Boundaries.fail("promise " + promise + " has no test");
      tests += many;
    }
    System.out.println("BoundariesTest: of promises 1 to 37: " + all.values());
    System.out.println("BoundariesTest: " + tests + " tests, " + Boundaries.wrong() + " answers not as due");
    if (Boundaries.wrong() != 0) System.exit(1);
  }
}
