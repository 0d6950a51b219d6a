/** Each promise by hand-worked cases: ordinary ones, the edges, and wrong inputs. */
public final class PromisesTest {
  private static final int NONE = -1, BAD = -2, NOT = -3, FULL = -4;
  private static final int NULL = -11, INDEX = -12, CAST = -13, STORE = -14, SIZE = -15;
  private static final int LEAST = Integer.MIN_VALUE;
  private static final Due due = new Due("PromisesTest");

  public static void main(String[] args) {
    aNewObject();
    type();
    wipe();
    undo();
    fault();
    told();
    round();
    set();
    event();
    back();
    read();
    at();
    cratesAndCart();
    horses();
    dogs();
    whistles();
    cats();
    door();
    done();
    sum();
    over();
    lacks();
    better();
    fit();
    swap();
    spare();
    seen();
    forget();
    never();
    numbers();
    might();
    ask();
    chance();
    mornings();
    sheet();
    lose();
    put();
    get();
    copy();
    write();
    count();
    digest();
    due.end();
  }

  private static MilkHorse street(String wants, String empties, String round) {
    MilkHorse x = new MilkHorse();
    tell(x, 0, wants);
    tell(x, 1, empties);
    tell(x, 2, round);
    return x;
  }

  private static void tell(MilkHorse x, int text, String s) {
    for (int i = 0; i < s.length(); i++) due.is("type", x.type(text, s.charAt(i)), i + 1);
  }

  private static void minute(MilkHorse x, int minute, int man, int cart, int full, int empty, int did) {
    due.is("man behind " + minute, x.at(minute, 0), man);
    due.is("cart behind " + minute, x.at(minute, 1), cart);
    due.is("full behind " + minute, x.at(minute, 2), full);
    due.is("empties behind " + minute, x.at(minute, 3), empty);
    due.is("did in " + minute, x.at(minute, 4), did);
  }

  private static void men(MilkHorse x, int what, int... doors) {
    for (int m = 0; m < doors.length; m++) due.is("at(" + m + ", " + what + ")", x.at(m, what), doors[m]);
  }

  // promise 1
  private static void aNewObject() {
    MilkHorse x = new MilkHorse();
    for (int d = 0; d < 12; d++) {
      due.is("told", x.told(d, 0), 0);
      due.is("told", x.told(d, 1), 0);
    }
    for (int i = 0; i < 24; i++) due.is("round", x.round(i), NONE);
    due.is("horse", x.count(4), 1);
    due.is("room", x.count(5), 4);
    due.is("cart", x.count(6), 40);
    due.is("events", x.count(2), 0);
    due.is("seen", x.count(7), 0);
    due.is("finding", x.count(8), 0);
    for (int s = 0; s < 4; s++) due.is("lose", x.lose(s), NULL);
    // asked first of all, before anything was told
    due.is("over", new MilkHorse().over(), 0);
    due.is("left", new MilkHorse().sum(4), 40);
    due.is("lacks", new MilkHorse().lacks(), 0);
    due.is("better", new MilkHorse().better(0), 0);
    due.is("fit", new MilkHorse().fit(0), 1);
    due.is("swap", new MilkHorse().swap(0), NONE);
    due.is("spare", new MilkHorse().spare(NONE), 0);
    due.is("ask", new MilkHorse().ask(), 0);
    due.is("chance", new MilkHorse().chance(3, 3, 0), 1);
    due.is("NONE", MilkHorse.NONE, NONE);
    due.is("BAD", MilkHorse.BAD, BAD);
    due.is("NOT", MilkHorse.NOT, NOT);
    due.is("FULL", MilkHorse.FULL, FULL);
  }

  // promise 2
  private static void type() {
    MilkHorse x = new MilkHorse();
    due.is("type(-1)", x.type(-1, 48), BAD);
    due.is("type(3)", x.type(3, 48), BAD);
    due.is("type b -1", x.type(0, -1), BAD);
    due.is("type b 256", x.type(0, 256), BAD);
    due.is("bytes", x.count(1), 0);
    due.is("type b 0", x.type(0, 0), 1);
    due.is("type b 255", x.type(0, 255), 2);
    int[] most = {12, 12, 24};
    for (int text = 0; text < 3; text++) {
      MilkHorse y = new MilkHorse();
      for (int i = 1; i <= most[text]; i++) due.is("type", y.type(text, 99), i);
      due.is("type full", y.type(text, 99), FULL);
      due.is("BAD goes ahead of FULL", y.type(text, 256), BAD);
      due.is("bytes", y.count(1), most[text]);
    }
  }

  // promise 3
  private static void wipe() {
    MilkHorse x = street("12", "3", "abc");
    due.is("wipe(-1)", x.wipe(-1), BAD);
    due.is("wipe(3)", x.wipe(3), BAD);
    due.is("wipe(2)", x.wipe(2), 3);
    due.is("wipe(2)", x.wipe(2), 0);
    due.is("round(0)", x.round(0), NONE);
    due.is("told(1, 0)", x.told(1, 0), 2);
    due.is("wipe(0)", x.wipe(0), 2);
    due.is("told(1, 0)", x.told(1, 0), 0);
    due.is("wipe(1)", x.wipe(1), 1);
    due.is("told(0, 1)", x.told(0, 1), 0);
    due.is("type", x.type(0, '4'), 1);
    due.is("told(0, 0)", x.told(0, 0), 4);
  }

  // promise 4
  private static void undo() {
    MilkHorse x = street("12", "3x", "ab");
    due.is("undo(-1)", x.undo(-1), BAD);
    due.is("undo(3)", x.undo(3), BAD);
    due.is("undo(0)", x.undo(0), 1);
    due.is("told(1, 0)", x.told(1, 0), 0);
    due.is("told(0, 0)", x.told(0, 0), 1);
    due.is("undo(0)", x.undo(0), 0);
    due.is("undo(0)", x.undo(0), NOT);
    due.is("told(0, 1) with a fault", x.told(0, 1), 0);
    due.is("undo(1)", x.undo(1), 1);
    due.is("told(0, 1)", x.told(0, 1), 3);
    due.is("undo(2)", x.undo(2), 1);
    due.is("round(1)", x.round(1), NONE);
  }

  // promise 5
  private static void fault() {
    MilkHorse x = new MilkHorse();
    due.is("fault(-1)", x.fault(-1), BAD);
    due.is("fault(3)", x.fault(3), BAD);
    for (int text = 0; text < 3; text++) due.is("fault of an empty one", x.fault(text), NONE);
    for (int text = 0; text < 3; text++) {
      x.type(text, '#');
      due.is("fault of the first", x.fault(text), 0);
      x.wipe(text);
    }
    int[] low = {'0', '0', 'a'};
    int[] high = {'5', '5', 'l'};
    for (int text = 0; text < 3; text++) {
      for (int b = 0; b < 256; b++) {
        x.wipe(text);
        x.type(text, low[text]);
        x.type(text, high[text]);
        x.type(text, b);
        x.type(text, 200);
        due.is("fault", x.fault(text), b < low[text] || b > high[text] ? 2 : 3);
        x.undo(text);
        due.is("fault", x.fault(text), b < low[text] || b > high[text] ? 2 : NONE);
        if (b % 40 == 39) x = new MilkHorse();
      }
    }
  }

  // promise 6
  private static void told() {
    MilkHorse x = street("012345", "543210543210", "");
    due.is("told(-1, 0)", x.told(-1, 0), BAD);
    due.is("told(12, 0)", x.told(12, 0), BAD);
    due.is("told(0, -1)", x.told(0, -1), BAD);
    due.is("told(0, 2)", x.told(0, 2), BAD);
    for (int d = 0; d < 12; d++) {
      due.is("wants", x.told(d, 0), d < 6 ? d : 0);
      due.is("empties", x.told(d, 1), 5 - d % 6);
    }
    x.type(0, '6');
    for (int d = 0; d < 12; d++) due.is("wants with a fault", x.told(d, 0), 0);
  }

  // promise 7
  private static void round() {
    MilkHorse x = street("", "", "lacb");
    due.is("round(-1)", x.round(-1), BAD);
    due.is("round(24)", x.round(24), BAD);
    int[] doors = {11, 0, 2, 1, NONE};
    for (int i = 0; i < doors.length; i++) due.is("round", x.round(i), doors[i]);
    due.is("round(23)", x.round(23), NONE);
    x.type(2, 'm');
    due.is("round with a fault", x.round(0), NONE);
    due.is("count(0) with a fault", x.count(0), 0);
  }

  // promise 8
  private static void set() {
    MilkHorse x = new MilkHorse();
    int[][] bad = {{-1, 1}, {3, 1}, {0, -1}, {0, 3}, {1, 0}, {1, 9}, {2, -1}, {2, 61}};
    for (int[] b : bad) due.is("set(" + b[0] + ", " + b[1] + ")", x.set(b[0], b[1]), BAD);
    due.is("set horse", x.set(0, 2), 1);
    due.is("set horse", x.set(0, 0), 2);
    due.is("set horse", x.set(0, 1), 0);
    due.is("set room", x.set(1, 8), 4);
    due.is("set room", x.set(1, 1), 8);
    due.is("set cart", x.set(2, 0), 40);
    due.is("set cart", x.set(2, 60), 0);
    due.is("horse", x.count(4), 1);
    due.is("room", x.count(5), 1);
    due.is("cart", x.count(6), 60);
  }

  // promise 9
  private static void event() {
    MilkHorse x = new MilkHorse();
    int[][] bad = {{-1, 0, 0}, {3, 0, 0}, {0, -1, 0}, {0, 48, 0}, {0, 0, -1}, {0, 0, 12}, {1, 0, 12}, {2, 0, -1}};
    for (int[] b : bad) due.is("event bad", x.event(b[0], b[1], b[2]), BAD);
    due.is("events", x.count(2), 0);
    for (int i = 1; i <= 8; i++) due.is("event", x.event(i % 3, i == 1 ? 47 : 0, 11), i);
    due.is("event full", x.event(0, 0, 0), FULL);
    due.is("BAD goes ahead of FULL", x.event(0, 48, 0), BAD);
    due.is("events", x.count(2), 8);
  }

  // promise 10
  private static void back() {
    MilkHorse x = street("2", "", "a");
    due.is("back", x.back(), NOT);
    x.event(2, 2, 0);
    x.event(2, 3, 0);
    due.is("broken", x.sum(2), 2);
    due.is("back", x.back(), 1);
    due.is("broken", x.sum(2), 1);
    due.is("back", x.back(), 0);
    due.is("broken", x.sum(2), 0);
    due.is("back", x.back(), NOT);
  }

  // promise 11
  private static void read() {
    MilkHorse x = street("5", "", "a");
    x.set(1, 8);
    due.is("read(-1)", x.read(-1), BAD);
    due.is("read(4)", x.read(4), BAD);
    due.is("read lost", x.read(1), NULL);
    due.is("finding", x.count(8), 1);
    x.sheet(1, 0, 0);
    due.is("read of no items", x.read(1), 0);
    x.sheet(1, 1, 8);
    int[] items = {2, 2, 0, 2, 47, 0, 2, 3};
    for (int i = 0; i < items.length; i++) x.put(1, 1, i, items[i]);
    due.is("read of two and a part", x.read(1), 2);
    due.is("events", x.count(2), 2);
    due.is("broken", x.sum(2), 2);
    due.is("read comes behind the others", x.read(1), 2);
    due.is("events", x.count(2), 4);
    x.put(1, 1, 3, 3);
    due.is("read until one may not be", x.read(1), 1);
    x.put(1, 1, 0, -1);
    due.is("read of none that may be", x.read(1), 0);
    due.is("events", x.count(2), 5);
    x.sheet(2, 2, 60);
    due.is("read until it is full", x.read(2), 3);
    due.is("read when it is full", x.read(2), 0);
    MilkHorse y = street("5", "", "a");
    y.sheet(0, 0, 3);
    y.put(0, 0, 0, 2);
    y.put(0, 0, 1, 30);
    due.is("broken", y.sum(2), 0);
    due.is("read of just one", y.read(0), 1);
    due.is("broken", y.sum(2), 1);
    due.is("events", x.count(2), 8);
  }

  // promise 12
  private static void at() {
    MilkHorse x = street("2", "1", "a");
    due.is("at(-1, 0)", x.at(-1, 0), BAD);
    due.is("at(48, 0)", x.at(48, 0), BAD);
    due.is("at(0, -1)", x.at(0, -1), BAD);
    due.is("at(0, 5)", x.at(0, 5), BAD);
    minute(x, 0, 0, 0, 4, 0, 2);
    minute(x, 1, 0, 0, 2, 1, 3);
    minute(x, 2, 0, 0, 2, 1, 0);
    minute(x, 47, 0, 0, 2, 1, 0);
    // with an empty crate and nothing wanted he goes for the empties alone
    x = street("", "02", "b");
    minute(x, 0, 1, 0, 0, 0, 1);
    minute(x, 1, 1, 0, 0, 2, 3);
    minute(x, 2, 1, 0, 0, 2, 0);
    // no round: he rests, and the horse is where he is
    x = street("5", "5", "");
    minute(x, 0, 0, 0, 0, 0, 0);
    // the same door twice is served twice
    x = street("1", "", "aa");
    men(x, 4, 2, 3, 3, 0);
  }

  // promise 12: what goes into the crate and comes out of the cart
  private static void cratesAndCart() {
    MilkHorse x = street("2", "3", "a");
    x.set(1, 1);
    minute(x, 0, 0, 0, 1, 0, 2);
    minute(x, 1, 0, 0, 0, 1, 3);
    minute(x, 2, 0, 0, 1, 0, 2);
    minute(x, 3, 0, 0, 0, 1, 3);
    minute(x, 4, 0, 0, 0, 1, 0);
    due.is("back", x.sum(3), 1);
    due.is("left", x.sum(4), 38);
    // empties have only what room the full ones leave
    x = street("1", "5", "a");
    minute(x, 1, 0, 0, 3, 1, 3);
    due.is("empties at the door", x.door(1, 0, 2), 4);
    // and what other empties leave: 0 fills, 1 serves a, 2 to b, 3 serves b, where room is for one more
    x = street("21", "14", "ab");
    minute(x, 1, 0, 0, 2, 1, 3);
    minute(x, 3, 1, 0, 1, 3, 3);
    due.is("empties at the door", x.door(3, 1, 2), 2);
    // the cart has less than there is room for, then none
    x = street("5", "1", "a");
    x.set(2, 3);
    minute(x, 0, 0, 0, 3, 0, 2);
    minute(x, 1, 0, 0, 0, 1, 3);
    minute(x, 2, 0, 0, 0, 0, 2);
    minute(x, 3, 0, 0, 0, 0, 0);
    due.is("back", x.sum(3), 1);
    due.is("filled", x.sum(1), 2);
    due.is("over", x.over(), 3);
  }

  // promise 12: the cart by the three horses
  private static void horses() {
    MilkHorse x = street("0002", "", "d");
    men(x, 0, 0, 1, 2, 3, 3, 3);
    men(x, 4, 2, 1, 1, 1, 3, 0);
    men(x, 1, 0, 0, 1, 2, 2, 2, 2);
    x.set(0, 0);
    men(x, 1, 0, 0, 0, 0, 0, 0, 0);
    x.set(0, 2);
    men(x, 1, 0, 0, 1, 1, 2, 2, 3, 3, 3);
    // a slow one in minute 0 goes with a man who went ahead at once
    x = street("", "", "d");
    x.set(0, 2);
    men(x, 1, 1, 1, 2, 2, 3, 3);
  }

  // promise 12: dogs
  private static void dogs() {
    MilkHorse x = street("0002", "", "d");
    x.event(0, 1, 1);
    men(x, 0, 0, 0, 1, 2, 3);
    men(x, 4, 2, 4, 1, 1, 1, 3, 0);
    x.back();
    x.event(0, 4, 3);
    men(x, 4, 2, 1, 1, 1, 4, 3, 0);
    x.back();
    // a dog where he is does not keep him from going on, nor from filling, nor one further off
    x.event(0, 0, 0);
    x.event(0, 1, 0);
    x.event(0, 2, 3);
    men(x, 4, 2, 1, 1, 1, 3, 0);
    // two dogs in one minute
    x = street("0002", "", "d");
    x.event(0, 1, 1);
    x.event(0, 1, 9);
    men(x, 4, 2, 4, 1, 1, 1, 3, 0);
    // on his way back to the cart
    x = street("0003", "", "d");
    x.set(0, 0);
    x.set(1, 1);
    x.event(0, 5, 2);
    x.event(0, 5, 2);
    men(x, 0, 0, 1, 2, 3, 3, 3, 2, 1, 0, 0);
    men(x, 4, 2, 1, 1, 1, 3, 4, 1, 1, 1, 2);
  }

  // promise 12: whistles
  private static void whistles() {
    MilkHorse x = street("000000000001", "", "l");
    x.set(0, 0);
    x.event(1, 2, 9);
    men(x, 1, 0, 0, 1, 1);
    x.event(1, 7, 0);
    men(x, 1, 0, 0, 1, 1, 1, 1, 1, 4, 4);
    x.event(1, 7, 11);
    men(x, 1, 0, 0, 1, 1, 1, 1, 1, 6, 6);
    x.set(0, 1);
    // by a whistle it comes to the man himself; then he goes on
    men(x, 1, 0, 0, 1, 2, 3, 4, 5, 6, 7);
    // from the other side
    x = street("10000001", "", "ha");
    x.set(0, 1);
    x.event(1, 16, 5);
    men(x, 0, 0, 1, 2, 3, 4, 5, 6, 7, 7, 6, 5, 4, 3, 2, 1, 0, 0);
    due.is("cart", x.at(15, 1), 1);
    due.is("cart", x.at(16, 1), 0);
  }

  // promise 12, 13: cats
  private static void cats() {
    MilkHorse x = street("2", "", "a");
    x.event(2, 1, 0);
    due.is("a cat ahead of the bottles", x.sum(2), 0);
    x.event(2, 2, 0);
    x.event(2, 2, 1);
    due.is("laid", x.door(2, 0, 0), 2);
    due.is("standing", x.door(2, 0, 1), 1);
    due.is("standing", x.door(1, 0, 1), 2);
    due.is("broken", x.sum(2), 1);
    due.is("what is broken is not brought again", x.lacks(), 0);
    x.event(2, 3, 0);
    x.event(2, 4, 0);
    due.is("broken", x.sum(2), 2);
    due.is("standing", x.door(47, 0, 1), 0);
    due.is("laid", x.door(47, 0, 0), 2);
  }

  // promise 13
  private static void door() {
    MilkHorse x = street("25", "41", "ab");
    int[][] bad = {{-1, 0, 0}, {48, 0, 0}, {0, -1, 0}, {0, 12, 0}, {0, 0, -1}, {0, 0, 3}};
    for (int[] b : bad) due.is("door bad", x.door(b[0], b[1], b[2]), BAD);
    // 0 fills, 1 serves a (2, takes 2), 2 to b, 3 serves b (2, takes 1), 4 to a, 5 fills, 6 to b, 7 serves (3)
    int[][] laid = {{0, 0}, {2, 0}, {2, 0}, {2, 2}, {2, 2}, {2, 2}, {2, 2}, {2, 5}};
    int[][] left = {{4, 1}, {2, 1}, {2, 1}, {2, 0}, {2, 0}, {2, 0}, {2, 0}, {2, 0}};
    for (int m = 0; m < laid.length; m++) {
      for (int d = 0; d < 2; d++) {
        due.is("laid " + m + " " + d, x.door(m, d, 0), laid[m][d]);
        due.is("standing " + m + " " + d, x.door(m, d, 1), laid[m][d]);
        due.is("empties " + m + " " + d, x.door(m, d, 2), left[m][d]);
      }
    }
    due.is("of a door not in the round", x.door(47, 11, 0), 0);
    due.is("back", x.sum(3), 3);
  }

  // promise 14
  private static void done() {
    MilkHorse x = street("251", "", "ab");
    due.is("done(-1)", x.done(-1), BAD);
    due.is("done(12)", x.done(12), BAD);
    due.is("done(0)", x.done(0), 1);
    due.is("done(1)", x.done(1), 7);
    due.is("done(2)", x.done(2), NONE);
    due.is("done(3)", x.done(3), 0);
  }

  // promise 15
  private static void sum() {
    MilkHorse x = street("25", "41", "ab");
    due.is("sum(-1)", x.sum(-1), BAD);
    due.is("sum(5)", x.sum(5), BAD);
    x.event(2, 9, 1);
    int[] sums = {3, 2, 1, 3, 32};
    for (int what = 0; what < 5; what++) due.is("sum " + what, x.sum(what), sums[what]);
    x.set(2, 0);
    int[] bare = {0, 1, 0, 0, 0};
    for (int what = 0; what < 5; what++) due.is("sum " + what, x.sum(what), bare[what]);
  }

  // promise 16
  private static void over() {
    MilkHorse x = street("25", "41", "ab");
    due.is("over", x.over(), 8);
    x.set(2, 0);
    due.is("over with a bare cart", x.over(), 1);
    x.wipe(2);
    due.is("over without a round", x.over(), 0);
    x = toTheLastMinute();
    due.is("over just not", x.over(), NONE);
    x.undo(0);
    x.type(0, '1');
    due.is("over sooner", x.over(), 24);
  }

  /** Door 11 gets its second bottle in minute 47. */
  private static MilkHorse toTheLastMinute() {
    MilkHorse x = street("500000000002", "", "aal");
    x.set(0, 0);
    x.set(1, 1);
    return x;
  }

  // promise 17
  private static void lacks() {
    MilkHorse x = street("111", "", "a");
    due.is("lacks", x.lacks(), 6);
    x.type(2, 'c');
    due.is("lacks", x.lacks(), 2);
    x.set(2, 0);
    due.is("lacks", x.lacks(), 7);
    x = toTheLastMinute();
    due.is("lacks", x.lacks(), 0);
    x.event(0, 47, 11);
    due.is("lacks", x.lacks(), 2048);
  }

  // promise 18
  private static void better() {
    MilkHorse x = street("0003", "", "d");
    due.is("better(-1)", x.better(-1), BAD);
    due.is("better(3)", x.better(3), BAD);
    x.set(1, 1);
    // he walks 15 by one that waits, 7 by one that knows, 5 by a slow one
    int[] walks = {15, 7, 5};
    for (int horse = 0; horse < 3; horse++) {
      x.set(0, horse);
      due.is("walked by " + horse, x.sum(0), walks[horse]);
      due.is("better", x.better(0), 2);
      due.is("better", x.better(1), 0);
      due.is("better", x.better(2), 5);
    }
    due.is("horse", x.count(4), 2);
    x.set(1, 3);
    due.is("of like ones the least", x.better(0), 0);
    x.set(2, 0);
    due.is("short", x.better(1), 1);
    due.is("far", x.better(2), 0);
  }

  // promise 19
  private static void fit() {
    MilkHorse x = street("0003", "", "d");
    due.is("fit(-1)", x.fit(-1), BAD);
    due.is("fit(3)", x.fit(3), BAD);
    due.is("fit", x.fit(0), 3);
    due.is("fit", x.fit(1), 0);
    due.is("fit", x.fit(2), 3);
    due.is("room", x.count(5), 4);
    x.set(2, 2);
    // by two he is bare at once; by one he walks more: 1 short in all cases, least walked behind that
    due.is("fit", x.fit(1), 1);
    due.is("fit", x.fit(0), 2);
    due.is("fit", x.fit(2), 4);
    x = street("05003", "", "be");
    due.is("fit is the greatest", x.fit(0), 8);
    due.is("fit is the greatest", x.fit(2), 4);
    x = street("0001", "", "d");
    due.is("fit is the least", x.fit(0), 1);
    x.set(0, 0);
    due.is("fit is the least", x.fit(2), 3);
  }

  // promise 20
  private static void swap() {
    MilkHorse x = street("111", "", "c");
    due.is("swap(-1)", x.swap(-1), BAD);
    due.is("swap(4)", x.swap(4), BAD);
    for (int what = 0; what < 4; what++) due.is("swap of one", x.swap(what), NONE);
    tellMore(x, 2, "ab");
    int[] best = {0, 1, 0, 3};
    for (int what = 0; what < 4; what++) due.is("swap", x.swap(what), best[what]);
    due.is("round stays", x.round(0), 2);
    due.is("walked stays", x.sum(0), 5);
    x.wipe(2);
    tellMore(x, 2, "abc");
    // bac he walks by 1 1 2, cba by 2 1 1, acb by 2 1
    int[] abc = {1, 2, 0, 3};
    for (int what = 0; what < 4; what++) due.is("swap abc", x.swap(what), abc[what]);
    x.wipe(2);
    tellMore(x, 2, "aaaaaaaaaaaaaaaaaaaaaaaa");
    int[] like = {0, 1, 2, 0};
    for (int what = 0; what < 4; what++) due.is("swap of like ones", x.swap(what), like[what]);
    x.undo(2);
    x.type(2, 'm');
    for (int what = 0; what < 4; what++) due.is("swap with a fault", x.swap(what), NONE);
  }

  private static void tellMore(MilkHorse x, int text, String s) {
    for (int i = 0; i < s.length(); i++) x.type(text, s.charAt(i));
  }

  private static void spares(MilkHorse x, int many, int first, int second) {
    due.is("spare(NONE)", x.spare(NONE), many);
    due.is("spare(0)", x.spare(0), first);
    due.is("spare(1)", x.spare(1), second);
  }

  // promise 21
  private static void spare() {
    MilkHorse x = street("4", "", "a");
    due.is("spare(-2)", x.spare(-2), BAD);
    due.is("spare(2)", x.spare(2), BAD);
    spares(x, 0, NONE, NONE);
    x.event(0, 5, 3);
    x.event(2, 1, 0);
    spares(x, 0, NONE, NONE);
    x.event(2, 9, 0);
    spares(x, 1, 2, NONE);
    x.event(1, 9, 0);
    x.event(2, 8, 0);
    spares(x, 2, 2, 4);
    x.event(2, 7, 0);
    spares(x, NONE, NONE, NONE);
    x.back();
    x.set(2, 3);
    spares(x, NONE, NONE, NONE);
    // the very first event alone, then with another
    x = street("4", "", "a");
    x.event(2, 9, 0);
    spares(x, 1, 0, NONE);
    x.event(2, 8, 0);
    spares(x, 2, 0, 1);
    // dogs, each of which alone makes him too late
    x = toTheLastMinute();
    x.event(2, 0, 0);
    x.event(0, 46, 11);
    spares(x, 1, 1, NONE);
    x.event(0, 47, 11);
    spares(x, 2, 1, 2);
  }

  // promise 22
  private static void seen() {
    MilkHorse x = new MilkHorse();
    int[][] bad = {{-1, 0}, {48, 0}, {0, -1}, {0, 12}};
    for (int[] b : bad) due.is("seen bad", x.seen(b[0], b[1]), BAD);
    for (int i = 1; i <= 8; i++) due.is("seen", x.seen(47, 11), i);
    due.is("seen full", x.seen(0, 0), FULL);
    due.is("BAD goes ahead of FULL", x.seen(0, 12), BAD);
    due.is("seen", x.count(7), 8);
  }

  // promise 23
  private static void forget() {
    MilkHorse x = new MilkHorse();
    due.is("forget", x.forget(), 0);
    x.seen(3, 3);
    x.seen(3, 3);
    due.is("might", x.might(0), 0);
    due.is("forget", x.forget(), 2);
    due.is("forget", x.forget(), 0);
    due.is("might", x.might(0), 7);
    due.is("seen", x.seen(0, 0), 1);
  }

  // promise 24
  private static void never() {
    MilkHorse x = street("0002", "", "d");
    due.is("never of none", x.never(), 0);
    x.event(0, 9, 5);
    x.event(0, 1, 1);
    due.is("never without seen", x.never(), 3);
    x.seen(1, 1);
    due.is("never", x.never(), 2);
    x.event(0, 1, 1);
    due.is("never: each alone", x.never(), 0);
    x.forget();
    x.seen(1, 0);
    due.is("never", x.never(), 7);
    due.is("events", x.count(2), 3);
    due.is("man", x.at(1, 0), 0);
  }

  // promise 25
  private static void numbers() {
    MilkHorse x = street("0002", "", "d");
    due.is("numbers(-1)", x.numbers(-1), BAD);
    due.is("numbers(12)", x.numbers(12), BAD);
    due.is("numbers(3)", x.numbers(3), 63);
    x.seen(0, 0);
    due.is("numbers(3)", x.numbers(3), 62);
    due.is("numbers(0)", x.numbers(0), 63);
    x.seen(5, 3);
    due.is("numbers(3)", x.numbers(3), 30);
    x.seen(5, 2);
    due.is("numbers(3)", x.numbers(3), 0);
    x.forget();
    x.seen(5, 2);
    due.is("numbers(3)", x.numbers(3), 32);
    due.is("told", x.told(3, 0), 2);
    x.type(0, 'x');
    due.is("numbers(3) in place of a fault", x.numbers(3), 32);
  }

  // promise 26
  private static void might() {
    MilkHorse x = street("0003", "", "d");
    due.is("might(-1)", x.might(-1), BAD);
    due.is("might(2)", x.might(2), BAD);
    due.is("might(0)", x.might(0), 7);
    due.is("might(1)", x.might(1), 510);
    x.seen(5, 3);
    due.is("might(1)", x.might(1), 504);
    x.forget();
    x.seen(5, 2);
    due.is("might(1)", x.might(1), 6);
    due.is("might(0)", x.might(0), 0);
    x.set(1, 1);
    due.is("might(0)", x.might(0), 7);
    x.seen(6, 2);
    due.is("might(0)", x.might(0), 6);
    x.seen(8, 3);
    x.seen(9, 3);
    due.is("might(0)", x.might(0), 4);
    due.is("horse", x.count(4), 1);
    due.is("room", x.count(5), 1);
  }

  // promise 27
  private static void ask() {
    MilkHorse x = street("0003", "", "d");
    due.is("ask", x.ask(), 5);
    x.seen(5, 2);
    due.is("ask", x.ask(), 9);
    x.seen(9, 2);
    due.is("ask of one", x.ask(), 0);
    x.seen(9, 3);
    due.is("ask of none", x.ask(), 0);
    // in minute 5 he rests by eight, and goes back to the cart by six and seven
    x = street("053", "", "bc");
    x.seen(2, 1);
    x.seen(3, 2);
    due.is("might(1)", x.might(1), 448);
    due.is("ask", x.ask(), 5);
  }

  private static void fraction(MilkHorse x, int c, int door, long above, long below) {
    due.is("above by " + c, x.chance(c, door, 0), above);
    due.is("below by " + c, x.chance(c, door, 1), below);
  }

  // promise 28
  private static void chance() {
    long bad = Long.MIN_VALUE + 2;
    MilkHorse x = toTheLastMinute();
    int[][] wrong = {{-1, 0, 0}, {17, 0, 0}, {0, -1, 0}, {0, 12, 0}, {0, 0, -1}, {0, 0, 2}};
    for (int[] b : wrong) due.is("chance bad", x.chance(b[0], b[1], b[2]), bad);
    fraction(x, 4, 11, 1, 1);
    x.event(0, 47, 11);
    fraction(x, 4, 11, 3, 4);
    fraction(x, 5, 11, 11, 16);
    fraction(x, 5, 0, 1, 1);
    fraction(x, 0, 11, 1, 1);
    fraction(x, 16, 11, 0, 1);
    x.event(0, 46, 11);
    fraction(x, 4, 11, 9, 16);
    fraction(x, 5, 11, 121, 256);
    x.event(2, 3, 3);
    fraction(x, 5, 11, 121, 256);
    for (int i = 0; i < 5; i++) x.event(0, 40 + i, 5 + i);
    fraction(x, 1, 11, 170859375L, 268435456L);
    fraction(x, 3, 0, 1, 1);
    // a wanting door is never well without a bottle
    x.set(2, 0);
    fraction(x, 3, 0, 0, 1);
    fraction(x, 3, 1, 1, 1);
    due.is("events", x.count(2), 8);
  }

  // promise 29
  private static void mornings() {
    MilkHorse x = street("555", "", "");
    int[][] bad = {{1, -1, 0}, {1, 13, 0}, {1, 1, -1}, {1, 1, 2}};
    for (int[] b : bad) due.is("mornings bad", x.mornings(b[0], b[1], b[2]), BAD);
    due.is("mornings of no lots", x.mornings(1, 0, 0), 0);
    due.is("lot 2 of seed 1", x.mornings(1, 1, 0), 1);
    int[] seeds = {1, 7, -1, Integer.MIN_VALUE, Integer.MAX_VALUE, 0};
    for (int seed : seeds) {
      int s = seed;
      int some = 0;
      for (int n = 1; n <= 12; n++) {
        s = s * 1103515245 + 12345;
        if ((s >>> 16) % 6 > 0) some++;
        due.is("mornings of seed " + seed, x.mornings(seed, n, 0), some);
      }
    }
    due.is("told", x.told(2, 0), 5);
    x.type(2, 'b');
    due.is("he goes for a door that wants none", x.mornings(1, 0, 1), 1);
    due.is("far", x.mornings(1, 12, 1), 1);
  }

  // promise 30
  private static void sheet() {
    MilkHorse x = new MilkHorse();
    int[][] bad = {{-1, 0, 0}, {4, 0, 0}, {0, -1, 0}, {0, 3, 0}, {0, 0, 61}, {4, 0, -1}, {0, 3, -1}};
    for (int[] b : bad) due.is("sheet bad", x.sheet(b[0], b[1], b[2]), BAD);
    due.is("finding", x.count(8), 0);
    due.is("sheet size", x.sheet(0, 0, -1), SIZE);
    due.is("finding", x.count(8), 5);
    due.is("it is lost still", x.lose(0), NULL);
    due.is("sheet", x.sheet(0, 0, 0), 0);
    due.is("sheet", x.sheet(3, 2, 60), 60);
    for (int i = 0; i < 60; i++) due.is("items", x.get(3, 2, i), 0);
    x.put(3, 2, 5, 77);
    due.is("sheet size", x.sheet(3, 2, LEAST), SIZE);
    due.is("it stays", x.get(3, 2, 5), 77);
    due.is("a new row", x.sheet(3, 1, 6), 6);
    due.is("a new row has 0", x.get(3, 1, 5), 0);
    due.is("a new row is of another form", x.get(3, 2, 5), LEAST);
  }

  // promise 31
  private static void lose() {
    MilkHorse x = new MilkHorse();
    due.is("lose(-1)", x.lose(-1), BAD);
    due.is("lose(4)", x.lose(4), BAD);
    due.is("finding", x.count(8), 0);
    due.is("lose lost", x.lose(2), NULL);
    due.is("finding", x.count(8), 1);
    x.sheet(2, 1, 17);
    due.is("lose", x.lose(2), 17);
    due.is("lose", x.lose(2), NULL);
    x.sheet(2, 1, 0);
    due.is("lose of none", x.lose(2), 0);
  }

  // promise 32
  private static void put() {
    MilkHorse x = new MilkHorse();
    int[][] bad = {{-1, 0}, {4, 0}, {0, -1}, {0, 3}};
    for (int[] b : bad) due.is("put bad", x.put(b[0], b[1], 0, 0), BAD);
    due.is("put null", x.put(0, 0, 0, 0), NULL);
    due.is("finding", x.count(8), 1);
    for (int form = 0; form < 3; form++) {
      x.sheet(form, form, 3);
      due.is("put cast", x.put(form, (form + 1) % 3, 0, 0), CAST);
      due.is("CAST goes ahead of INDEX", x.put(form, (form + 1) % 3, 9, 0), CAST);
      due.is("finding", x.count(8), 3);
      due.is("put index", x.put(form, form, 3, 0), INDEX);
      due.is("put index", x.put(form, form, -1, 0), INDEX);
      due.is("finding", x.count(8), 2);
    }
    int[] values = {0, -1, 127, 128, 255, 256, 32767, 32768, 65535, 65536, LEAST, Integer.MAX_VALUE, -129};
    for (int v : values) {
      due.is("put", x.put(0, 0, 2, v), 1);
      due.is("put", x.put(1, 1, 2, v), 1);
      due.is("put", x.put(2, 2, 2, v), 1);
      due.is("byte", x.get(0, 0, 2), (byte) v);
      due.is("short", x.get(1, 1, 2), (short) v);
      due.is("int", x.get(2, 2, 2), v);
    }
    due.is("others stay", x.get(2, 2, 1), 0);
  }

  // promise 33
  private static void get() {
    MilkHorse x = new MilkHorse();
    int[][] bad = {{-1, 0}, {4, 0}, {0, -1}, {0, 3}};
    for (int[] b : bad) due.is("get bad", x.get(b[0], b[1], 0), LEAST);
    due.is("finding", x.count(8), 0);
    due.is("get null", x.get(0, 0, 0), LEAST);
    due.is("finding", x.count(8), 1);
    x.sheet(0, 1, 2);
    due.is("get cast", x.get(0, 0, 5), LEAST);
    due.is("finding", x.count(8), 3);
    due.is("get index", x.get(0, 1, 2), LEAST);
    due.is("finding", x.count(8), 2);
    x.get(1, 1, 2);
    due.is("get index", x.get(0, 1, -1), LEAST);
    due.is("finding", x.count(8), 2);
    x.put(0, 1, 1, 300);
    due.is("get", x.get(0, 1, 1), 300);
    due.is("get bad", x.get(4, 1, 1), LEAST);
    due.is("finding stays", x.count(8), 2);
  }

  private static void row(MilkHorse x, int s, int form, int... items) {
    for (int i = 0; i < items.length; i++) due.is("item " + i, x.get(s, form, i), items[i]);
  }

  // promise 34
  private static void copy() {
    MilkHorse x = new MilkHorse();
    due.is("copy bad", x.copy(-1, 0, 0, 0, 0), BAD);
    due.is("copy bad", x.copy(0, 0, 4, 0, 0), BAD);
    due.is("copy null", x.copy(0, 0, 1, 0, 0), NULL);
    x.sheet(0, 1, 6);
    due.is("copy null", x.copy(0, 0, 1, 0, 0), NULL);
    due.is("copy null", x.copy(1, 0, 0, 0, 0), NULL);
    due.is("finding", x.count(8), 1);
    x.sheet(1, 2, 4);
    due.is("copy store", x.copy(0, 0, 1, 0, 0), STORE);
    due.is("STORE goes ahead of INDEX", x.copy(0, -1, 1, 0, 99), STORE);
    due.is("finding", x.count(8), 4);
    x.sheet(1, 1, 4);
    for (int i = 0; i < 6; i++) x.put(0, 1, i, i + 1);
    int[][] outside = {{-1, 0, 1}, {0, -1, 1}, {0, 0, -1}, {0, 0, 5}, {3, 0, 4}, {0, 1, 4}, {7, 0, 0}, {0, 5, 0},
        {LEAST, 0, LEAST}, {Integer.MAX_VALUE, 0, 1}, {1, 0, Integer.MAX_VALUE}, {0, Integer.MAX_VALUE, 3}};
    for (int[] o : outside) due.is("copy index " + o[0] + " " + o[1] + " " + o[2], x.copy(0, o[0], 1, o[1], o[2]), INDEX);
    due.is("finding", x.count(8), 2);
    row(x, 1, 1, 0, 0, 0, 0);
    due.is("copy none at the ends", x.copy(0, 6, 1, 4, 0), 1);
    due.is("copy", x.copy(0, 2, 1, 1, 3), 1);
    row(x, 1, 1, 0, 3, 4, 5);
    due.is("copy onto itself", x.copy(0, 0, 0, 1, 5), 1);
    row(x, 0, 1, 1, 1, 2, 3, 4, 5);
    due.is("copy onto itself", x.copy(0, 2, 0, 0, 4), 1);
    row(x, 0, 1, 2, 3, 4, 5, 4, 5);
  }

  // promise 35
  private static void write() {
    MilkHorse x = street("0002", "", "d");
    due.is("write bad", x.write(-1, 0), BAD);
    due.is("write bad", x.write(2, 0), BAD);
    due.is("write bad", x.write(0, -1), BAD);
    due.is("write bad", x.write(0, 4), BAD);
    due.is("finding", x.count(8), 0);
    due.is("write null", x.write(0, 0), NULL);
    due.is("finding", x.count(8), 1);
    for (int form = 0; form < 3; form++) {
      x.sheet(form, form, 5 + form);
      due.is("write", x.write(0, form), 5 + form);
      row(x, form, form, 0, 1, 2, 3, 3);
      x.put(form, form, 0, 9);
      due.is("write", x.write(1, form), 5 + form);
      row(x, form, form, 0, 0, 1, 2, 2);
    }
    x.sheet(3, 0, 60);
    x.put(3, 0, 47, 9);
    x.put(3, 0, 48, 9);
    due.is("write of 48", x.write(0, 3), 48);
    due.is("item 47", x.get(3, 0, 47), 3);
    due.is("item 48", x.get(3, 0, 48), 9);
    x.sheet(3, 0, 0);
    due.is("write of none", x.write(0, 3), 0);
  }

  // promise 36
  private static void count() {
    MilkHorse x = street("123", "4", "abcd");
    due.is("count(-1)", x.count(-1), BAD);
    due.is("count(9)", x.count(9), BAD);
    x.event(2, 40, 0);
    x.event(2, 41, 0);
    x.seen(0, 0);
    x.set(0, 2);
    x.set(1, 7);
    x.set(2, 3);
    x.copy(0, 0, 0, 0, 0);
    int[] counts = {4, 8, 2, 1, 2, 7, 3, 1, 1};
    for (int what = 0; what < counts.length; what++) due.is("count " + what, x.count(what), counts[what]);
    x.type(2, 'z');
    due.is("doors in a round with a fault", x.count(0), 0);
    due.is("bytes of all texts", x.count(1), 9);
    due.is("short without a round", x.count(3), 3);
  }

  // promise 37
  private static void digest() {
    MilkHorse x = street("321", "", "cab");
    x.event(0, 2, 2);
    x.event(1, 4, 0);
    due.is("digest", x.digest(), 1917920983913599918L);
    due.is("digest", x.digest(), byItsWords(x));
    x.seen(4, 2);
    due.is("digest", x.digest(), byItsWords(x));
    x.type(0, 'x');
    x.lose(0);
    due.is("digest", x.digest(), byItsWords(x));
    x.undo(0);
    x.set(2, 4);
    x.set(0, 2);
    due.is("digest", x.digest(), byItsWords(x));
  }

  private static long byItsWords(MilkHorse x) {
    long h = 17;
    for (int what = 0; what <= 7; what++) h = 31 * h + x.count(what);
    for (int text = 0; text < 3; text++) h = 31 * h + x.fault(text);
    for (int i = 0; i <= 23; i++) h = 31 * h + x.round(i);
    for (int m = 0; m <= 47; m++) for (int what = 0; what <= 4; what++) h = 31 * h + x.at(m, what);
    for (int d = 0; d < 12; d++) {
      long[] each = {x.told(d, 0), x.told(d, 1), x.door(8, d, 0), x.door(8, d, 1), x.door(8, d, 2), x.door(30, d, 0),
          x.door(30, d, 1), x.door(30, d, 2), x.done(d), x.numbers(d), x.chance(5, d, 0), x.chance(5, d, 1)};
      for (long v : each) h = 31 * h + v;
    }
    long[] rest = {x.sum(0), x.sum(1), x.sum(2), x.sum(3), x.sum(4), x.over(), x.lacks(), x.better(0), x.better(1),
        x.better(2), x.fit(0), x.fit(1), x.fit(2), x.swap(0), x.swap(1), x.swap(2), x.swap(3), x.spare(NONE),
        x.spare(0), x.never(), x.might(0), x.might(1), x.ask(), x.mornings(7, 9, 0), x.mornings(7, 9, 1)};
    for (long v : rest) h = 31 * h + v;
    return h;
  }
}
