import java.util.Random;

/** Long runs of calls by fixed seeds, each answer held against the plain round's. */
public final class AgainstPlainRoundTest {
  private static final Due due = new Due("AgainstPlainRoundTest");
  private static final int[] EDGES = {-2, -1, 0, 1, 2, 3, 4, 5, 8, 9, 11, 12, 16, 17, 23, 24, 47, 48, 60, 61, 255, 256,
      Integer.MIN_VALUE, Integer.MAX_VALUE};

  private final Random lots;
  private final MilkHorse x = new MilkHorse();
  private final PlainRound y = new PlainRound();
  /** How many of 100 arguments are taken from the edges, whether they fit or not. */
  private final int wild;
  private final String name;

  private AgainstPlainRoundTest(long seed, int wild) {
    this.lots = new Random(seed);
    this.wild = wild;
    this.name = "seed " + seed;
  }

  public static void main(String[] args) {
    for (int seed = 0; seed < 150; seed++) {
      AgainstPlainRoundTest t = new AgainstPlainRoundTest(seed, seed % 3 == 0 ? 20 : 3);
      t.begin();
      for (int calls = t.begun; calls < 500; calls++) t.call();
      due.is(t.name + " digest()", t.x.digest(), t.y.digest());
    }
    due.end();
  }

  private int begun = 0;

  /** Most runs start with a whole street, so that the later calls meet something. */
  private void begin() {
    if (lots.nextInt(5) == 0) return;
    boolean manyTold = lots.nextBoolean();
    int wants = 1 + lots.nextInt(12), empties = lots.nextInt(13), round = 1 + lots.nextInt(manyTold ? 24 : 8);
    for (int i = 0; i < wants; i++) type(0, '0' + lots.nextInt(6));
    for (int i = 0; i < empties; i++) type(1, '0' + lots.nextInt(6));
    for (int i = 0; i < round; i++) type(2, 'a' + (manyTold ? lots.nextInt(12) : lots.nextInt(wants)));
    int events = lots.nextInt(9);
    for (int i = 0; i < events; i++) event();
    set();
    set();
    begun = wants + empties + round + events + 2;
  }

  private int pick(int low, int high) {
    if (lots.nextInt(100) < wild) return EDGES[lots.nextInt(EDGES.length)];
    return low + lots.nextInt(high - low + 1);
  }

  private void is(String call, long got, long want) {
    due.is(name + " " + call, got, want);
  }

  private void type(int text, int b) {
    is("type(" + text + ", " + b + ")", x.type(text, b), y.type(text, b));
  }

  private void set() {
    int what = pick(0, 2);
    int v = what == 0 ? pick(0, 2) : what == 1 ? pick(1, 8) : pick(0, 60);
    is("set(" + what + ", " + v + ")", x.set(what, v), y.set(what, v));
  }

  private void event() {
    int kind = pick(0, 2), minute = pick(0, 47), number = pick(0, 11);
    is("event(" + kind + ", " + minute + ", " + number + ")", x.event(kind, minute, number),
        y.event(kind, minute, number));
  }

  private void call() {
    int k = lots.nextInt(100);
    if (k < 24) tell(k);
    else if (k < 44) minutes(k - 24);
    else if (k < 54) plans(k - 44);
    else if (k < 74) sights(k - 54);
    else sheets(k - 74);
  }

  private void tell(int k) {
    int text = pick(0, 2), i = pick(0, 23), door = pick(0, 11), what = pick(0, 1), s = pick(0, 3);
    if (k < 6) type(text, lots.nextInt(25) == 0 ? pick(0, 255) : text == 2 ? pick('a', 'l') : pick('0', '5'));
    else if (k < 7 && lots.nextInt(4) == 0) is("wipe(" + text + ")", x.wipe(text), y.wipe(text));
    else if (k < 10) is("undo(" + text + ")", x.undo(text), y.undo(text));
    else if (k < 12) is("fault(" + text + ")", x.fault(text), y.fault(text));
    else if (k < 13) is("told(" + door + ", " + what + ")", x.told(door, what), y.told(door, what));
    else if (k < 14) is("round(" + i + ")", x.round(i), y.round(i));
    else if (k < 17) set();
    else if (k < 21) event();
    else if (k < 22) is("back()", x.back(), y.back());
    else is("read(" + s + ")", x.read(s), y.read(s));
  }

  private void minutes(int k) {
    int minute = pick(0, 47), door = pick(0, 11), what = pick(0, 4), third = pick(0, 2);
    if (k < 7) is("at(" + minute + ", " + what + ")", x.at(minute, what), y.at(minute, what));
    else if (k < 12) {
      is("door(" + minute + ", " + door + ", " + third + ")", x.door(minute, door, third), y.door(minute, door, third));
    } else if (k < 14) is("done(" + door + ")", x.done(door), y.done(door));
    else if (k < 17) is("sum(" + what + ")", x.sum(what), y.sum(what));
    else if (k < 18) is("over()", x.over(), y.over());
    else is("lacks()", x.lacks(), y.lacks());
  }

  private void plans(int k) {
    int what = pick(0, 2), fourth = pick(0, 3), i = pick(-1, 1);
    if (k < 3) is("better(" + what + ")", x.better(what), y.better(what));
    else if (k < 6) is("fit(" + what + ")", x.fit(what), y.fit(what));
    else if (k < 7) is("swap(" + fourth + ")", x.swap(fourth), y.swap(fourth));
    else is("spare(" + i + ")", x.spare(i), y.spare(i));
  }

  private void sights(int k) {
    int minute = pick(0, 47), door = pick(0, 11), what = pick(0, 1), c = pick(0, 16), n = pick(0, 12);
    int seed = lots.nextInt();
    if (k < 4) {
      // mostly where he is, or was by another horse or crate, so that something may fit
      int where = lots.nextInt(4) == 0 ? door : y.at(minute, 0);
      is("seen(" + minute + ", " + where + ")", x.seen(minute, where), y.seen(minute, where));
    } else if (k < 5) is("forget()", x.forget(), y.forget());
    else if (k < 8) is("never()", x.never(), y.never());
    else if (k < 11) is("numbers(" + door + ")", x.numbers(door), y.numbers(door));
    else if (k < 14) is("might(" + what + ")", x.might(what), y.might(what));
    else if (k < 16) is("ask()", x.ask(), y.ask());
    else if (k < 17) {
      is("chance(" + c + ", " + door + ", " + what + ")", x.chance(c, door, what), y.chance(c, door, what));
    } else if (k < 19) {
      is("mornings(" + seed + ", " + n + ", " + what + ")", x.mornings(seed, n, what), y.mornings(seed, n, what));
    } else if (lots.nextInt(8) == 0) is("digest()", x.digest(), y.digest());
  }

  private void sheets(int k) {
    int s = pick(0, 3), t = pick(0, 3), form = pick(0, 2), i = pick(0, 20), j = pick(0, 20), n = pick(-1, 30);
    int what = pick(0, 1), counted = pick(0, 8);
    if (k < 3) is("sheet(" + s + ", " + form + ", " + n + ")", x.sheet(s, form, n), y.sheet(s, form, n));
    else if (k < 4) is("lose(" + s + ")", x.lose(s), y.lose(s));
    else if (k < 10) {
      int v = lots.nextInt(4) == 0 ? lots.nextInt() : lots.nextInt(3);
      is("put(" + s + ", " + form + ", " + i + ", " + v + ")", x.put(s, form, i, v), y.put(s, form, i, v));
    } else if (k < 14) is("get(" + s + ", " + form + ", " + i + ")", x.get(s, form, i), y.get(s, form, i));
    else if (k < 18) {
      is("copy(" + s + ", " + i + ", " + t + ", " + j + ", " + n + ")", x.copy(s, i, t, j, n), y.copy(s, i, t, j, n));
    } else if (k < 20) is("write(" + what + ", " + s + ")", x.write(what, s), y.write(what, s));
    else is("count(" + counted + ")", x.count(counted), y.count(counted));
  }
}
