import java.lang.reflect.InvocationTargetException;
import java.lang.reflect.Method;
import java.lang.reflect.Modifier;
import java.util.Map;
import java.util.TreeMap;

/**
 * What the tests of boundaries share. Each static method of a class below this one whose name begins
 * with promiseNN_ is a test: the name tells the promise and the boundary that it holds.
 */
abstract class Boundaries {
  static final int NONE = -1, BAD = -2, NOT = -3, FULL = -4;
  static final int NULL = -11, INDEX = -12, CAST = -13, STORE = -14, SIZE = -15;
  static final int LEAST = Integer.MIN_VALUE, MOST = Integer.MAX_VALUE;
  static final int DOG = 0, WHISTLE = 1, CAT = 2;
  static final int WAITS = 0, KNOWS = 1, SLOW = 2;
  static final int RESTED = 0, WENT = 1, FILLED = 2, SERVED = 3, STOOD = 4;
  static final int HORSE = 0, ROOM = 1, CART = 2;
  static final int BYTES = 0, SHORTS = 1, INTS = 2;

  private static String test = "";
  private static int wrong = 0;

  interface Made {
    MilkHorse anew();
  }

  interface Call {
    long on(MilkHorse x);
  }

  interface CallWith {
    long on(MilkHorse x, int v);
  }

  // ---- running

  /** Runs the tests of a class in the order of their names: how many there are of each promise. */
  static Map<Integer, Integer> runAll(Class<? extends Boundaries> section) throws IllegalAccessException {
    Map<String, Method> tests = new TreeMap<>();
    for (Method m : section.getDeclaredMethods()) {
      if (m.getName().matches("promise\\d\\d_\\w+")) tests.put(m.getName(), m);
      else holdsNoTest(m);
    }
    Map<Integer, Integer> many = new TreeMap<>();
    for (Method m : tests.values()) {
      test = section.getSimpleName() + "." + m.getName();
      many.merge(Integer.parseInt(m.getName().substring(7, 9)), 1, Integer::sum);
      try {
        m.invoke(null);
      } catch (InvocationTargetException e) {
        fail("threw " + e.getCause());
      }
    }
    return many;
  }

  /** A slip in a name must not let a test go unrun: what is no test is private. */
  private static void holdsNoTest(Method m) {
    test = m.getDeclaringClass().getSimpleName() + "." + m.getName();
    if (!Modifier.isPrivate(m.getModifiers())) fail("is neither private nor named as a test");
  }

  static int wrong() {
    return wrong;
  }

  static void fail(String what) {
    wrong++;
    System.out.println(test + ": " + what);
  }

  // ---- asking

  static void is(String call, long got, long want) {
    if (got != want) fail(call + " answered " + got + ", due is " + want);
  }

  static void holds(String what, boolean so) {
    if (!so) fail(what + " does not hold");
  }

  /** What at() answers of the first minutes, one behind another. */
  static void minutes(MilkHorse x, int what, int... want) {
    for (int m = 0; m < want.length; m++) is("at(" + m + ", " + what + ")", x.at(m, what), want[m]);
  }

  /** The call is refused by BAD, NOT or FULL, and changes nothing, not even count(8). */
  static void refused(String call, Made made, Call c, long want) {
    MilkHorse x = made.anew();
    is(call, c.on(x), want);
    is("count(8) behind " + call, x.count(8), made.anew().count(8));
    staysAs(call, x, made);
  }

  /** The call answers a finding, and changes nothing but count(8). */
  static void finds(String call, Made made, Call c, int want) {
    MilkHorse x = made.anew();
    is(call, c.on(x), want);
    is("count(8) behind " + call, x.count(8), -10 - want);
    staysAs(call, x, made);
  }

  /** The call answers and changes nothing of what the object was told. */
  static void onlyAnswers(String call, Made made, Call c, long want) {
    refused(call, made, c, want);
  }

  /** What is told behind all answers is heard like what is told ahead of them. */
  static void heard(String call, Made made, Call c) {
    MilkHorse x = made.anew();
    long before = x.digest();
    long got = c.on(x);
    MilkHorse y = made.anew();
    is(call + " behind answers", got, c.on(y));
    is("digest() behind " + call, x.digest(), y.digest());
    holds(call + " changes something", x.digest() != before);
  }

  /** Numbers below the least and above the most are BAD, the nearest and the farthest ones too. */
  static void badOutside(String call, int least, int most, CallWith c) {
    outside(call, least, most, c, BAD);
  }

  static void outside(String call, int least, int most, CallWith c, long want) {
    for (int v : new int[] {least - 1, LEAST, most + 1, MOST}) {
      refused(call + " with " + v, Boundaries::busy, x -> c.on(x, v), want);
    }
  }

  private static void staysAs(String call, MilkHorse x, Made made) {
    is("digest() behind " + call, x.digest(), made.anew().digest());
    String rows = rows(x);
    String were = rows(made.anew());
    if (!rows.equals(were)) fail("behind " + call + " the sheets are " + rows + ", due is " + were);
  }

  /** All sheets as a text; it asks by refusals, so count(8) is another behind it. */
  static String rows(MilkHorse x) {
    StringBuilder s = new StringBuilder();
    for (int sheet = 0; sheet < 4; sheet++) s.append(row(x, sheet)).append(' ');
    return s.toString();
  }

  private static String row(MilkHorse x, int s) {
    for (int form = 0; form < 3; form++) {
      StringBuilder items = new StringBuilder("form " + form + ":");
      for (int i = 0; i <= 60; i++) {
        int v = x.get(s, form, i);
        int found = v == LEAST ? x.count(8) : 0;
        if (found == 1) return "lost;";
        if (found == 3) break;
        if (found == 2) return items.append(';').toString();
        items.append(' ').append(v);
      }
    }
    return "unclear;";
  }

  // ---- making

  static MilkHorse street(String wants, String empties, String round) {
    MilkHorse x = new MilkHorse();
    tell(x, 0, wants);
    tell(x, 1, empties);
    tell(x, 2, round);
    return x;
  }

  static void tell(MilkHorse x, int text, String s) {
    for (int i = 0; i < s.length(); i++) x.type(text, s.charAt(i));
  }

  /** A street of which everything is told, so that whatever a refused call would change shows. */
  static MilkHorse busy() {
    MilkHorse x = street("213", "12", "cab");
    x.set(HORSE, SLOW);
    x.set(ROOM, 3);
    x.set(CART, 9);
    x.event(DOG, 3, 2);
    x.event(CAT, 12, 0);
    x.seen(0, 0);
    makeRow(x, 0, INTS, 1, -2, 3);
    makeRow(x, 1, BYTES, 4, 5);
    x.sheet(2, SHORTS, 0);
    x.get(0, INTS, 99);
    return x;
  }

  static void makeRow(MilkHorse x, int s, int form, int... items) {
    x.sheet(s, form, items.length);
    for (int i = 0; i < items.length; i++) x.put(s, form, i, items[i]);
  }

  /**
   * The horse waits and the crate has room for one. Door 0 takes minutes 0 to 9, its second place in the
   * round minute 10; the first bottle is at door 11 in 23, the second one, of the longest way, in 47.
   */
  static MilkHorse longMorning() {
    return longMorning("aal");
  }

  static MilkHorse longMorning(String round) {
    MilkHorse x = street("500000000002", "", round);
    x.set(HORSE, WAITS);
    x.set(ROOM, 1);
    return x;
  }

  static MilkHorse withEvents(MilkHorse x, int many, int kind, int minute, int number) {
    for (int i = 0; i < many; i++) x.event(kind, minute, number);
    return x;
  }

  static String times(int many, String s) {
    return s.repeat(many);
  }
}
