import java.math.BigInteger;
import java.util.ArrayList;
import java.util.Arrays;
import java.util.List;
import java.util.TreeMap;
import java.util.function.Predicate;

/**
 * The document once more, in the plainest words and without regard to time or room: every answer is
 * worked out anew from what was told. It shares no code with the program.
 */
final class PlainRound {
  private static final int NONE = -1, BAD = -2, NOT = -3, FULL = -4;

  record Event(int kind, int minute, int number) {}

  record Sight(int minute, int door) {}

  record Snapshot(int man, int cart, int full, int empties, int did, int[] laid, int[] stand, int[] left) {}

  record Told(int[] wants, int[] empties, List<Integer> round, int horse, int room, int cart, List<Event> events) {
    Told withHorse(int h) { return new Told(wants, empties, round, h, room, cart, events); }

    Told withRoom(int r) { return new Told(wants, empties, round, horse, r, cart, events); }

    Told withWants(int[] w) { return new Told(w, empties, round, horse, room, cart, events); }

    Told withRound(List<Integer> r) { return new Told(wants, empties, r, horse, room, cart, events); }

    Told withEvents(List<Event> e) { return new Told(wants, empties, round, horse, room, cart, e); }
  }

  /** A morning from the first minute to the last. */
  static final class Morning {
    final Told told;
    final List<Snapshot> minutes = new ArrayList<>();
    int walked, filled, broken, brought, left;

    Morning(Told told) {
      this.told = told;
      int man = 0, cart = 0, full = 0, empties = 0, at = 0;
      boolean bare = false;
      int[] laid = new int[12], stand = new int[12], steps = told.empties.clone();
      left = told.cart;
      for (int minute = 0; minute < 48; minute++) {
        List<Integer> dogs = new ArrayList<>();
        for (Event e : told.events) {
          if (e.minute != minute) continue;
          if (e.kind == 0) dogs.add(e.number);
          if (e.kind == 1) for (int k = 0; k < 3; k++) cart += Integer.signum(man - cart);
          if (e.kind == 2 && stand[e.number] > 0) {
            stand[e.number]--;
            broken++;
          }
        }
        int did;
        if (bare || at == told.round.size()) {
          did = 0;
        } else {
          int door = told.round.get(at);
          int wanting = told.wants[door] - laid[door];
          if (full == 0 && wanting > 0) {
            if (man == cart) {
              did = 2;
              filled++;
              brought += empties;
              empties = 0;
              bare = left == 0;
              while (full < told.room && left > 0) {
                full++;
                left--;
              }
            } else {
              int next = man + Integer.signum(cart - man);
              did = dogs.contains(next) ? 4 : 1;
              if (did == 1) man = next;
            }
          } else if (man != door) {
            int next = man + Integer.signum(door - man);
            did = dogs.contains(next) ? 4 : 1;
            if (did == 1) man = next;
          } else if (dogs.contains(door)) {
            did = 4;
          } else {
            did = 3;
            while (wanting > 0 && full > 0) {
              wanting--;
              full--;
              laid[door]++;
              stand[door]++;
            }
            while (steps[door] > 0 && full + empties < told.room) {
              steps[door]--;
              empties++;
            }
            if (wanting == 0) at++;
          }
        }
        if (did == 1) walked++;
        int far = Math.abs(man - cart);
        if (told.horse == 1 && far > 1 || told.horse == 2 && minute % 2 == 0) cart += Integer.signum(man - cart);
        minutes.add(new Snapshot(man, cart, full, empties, did, laid.clone(), stand.clone(), steps.clone()));
      }
    }

    int wanting(int door, int minute) {
      return told.wants[door] - minutes.get(minute).laid[door];
    }

    int shortBits() {
      int bits = 0;
      for (int d = 0; d < 12; d++) if (wanting(d, 47) > 0) bits |= 1 << d;
      return bits;
    }

    int shorts() {
      return Integer.bitCount(shortBits());
    }
  }

  private final List<List<Integer>> texts = List.of(new ArrayList<>(), new ArrayList<>(), new ArrayList<>());
  private final List<Event> events = new ArrayList<>();
  private final List<Sight> sights = new ArrayList<>();
  private final Object[] sheets = new Object[4];
  private int horse = 1, room = 4, cart = 40, finding = 0;

  private Told told() {
    return new Told(figures(0), figures(1), roundTold(), horse, room, cart, List.copyOf(events));
  }

  private Morning morning() {
    return new Morning(told());
  }

  private int[] figures(int text) {
    int[] row = new int[12];
    if (fault(text) == NONE) for (int i = 0; i < texts.get(text).size(); i++) row[i] = texts.get(text).get(i) - '0';
    return row;
  }

  private List<Integer> roundTold() {
    List<Integer> doors = new ArrayList<>();
    if (fault(2) == NONE) for (int b : texts.get(2)) doors.add(b - 'a');
    return doors;
  }

  private static boolean in(int v, int low, int high) {
    return low <= v && v <= high;
  }

  int type(int text, int b) {
    if (!in(text, 0, 2) || !in(b, 0, 255)) return BAD;
    if (texts.get(text).size() == (text == 2 ? 24 : 12)) return FULL;
    texts.get(text).add(b);
    return texts.get(text).size();
  }

  int wipe(int text) {
    if (!in(text, 0, 2)) return BAD;
    int had = texts.get(text).size();
    texts.get(text).clear();
    return had;
  }

  int undo(int text) {
    if (!in(text, 0, 2)) return BAD;
    List<Integer> t = texts.get(text);
    if (t.isEmpty()) return NOT;
    t.remove(t.size() - 1);
    return t.size();
  }

  int fault(int text) {
    if (!in(text, 0, 2)) return BAD;
    String may = text == 2 ? "abcdefghijkl" : "012345";
    for (int i = 0; i < texts.get(text).size(); i++) {
      if (may.indexOf(texts.get(text).get(i)) < 0) return i;
    }
    return NONE;
  }

  int told(int door, int what) {
    return in(door, 0, 11) && in(what, 0, 1) ? figures(what)[door] : BAD;
  }

  int round(int i) {
    if (!in(i, 0, 23)) return BAD;
    return i < roundTold().size() ? roundTold().get(i) : NONE;
  }

  int set(int what, int v) {
    int was = what == 0 ? horse : what == 1 ? room : cart;
    if (what == 0 && in(v, 0, 2)) horse = v;
    else if (what == 1 && in(v, 1, 8)) room = v;
    else if (what == 2 && in(v, 0, 60)) cart = v;
    else return BAD;
    return was;
  }

  int event(int kind, int minute, int number) {
    if (!in(kind, 0, 2) || !in(minute, 0, 47) || !in(number, 0, 11)) return BAD;
    if (events.size() == 8) return FULL;
    events.add(new Event(kind, minute, number));
    return events.size();
  }

  int back() {
    if (events.isEmpty()) return NOT;
    events.remove(events.size() - 1);
    return events.size();
  }

  int read(int s) {
    if (!in(s, 0, 3)) return BAD;
    if (sheets[s] == null) return found(1);
    int came = 0;
    while (came * 3 + 2 < size(s)
        && event(item(s, came * 3), item(s, came * 3 + 1), item(s, came * 3 + 2)) > 0) came++;
    return came;
  }

  int at(int minute, int what) {
    if (!in(minute, 0, 47) || !in(what, 0, 4)) return BAD;
    Snapshot s = morning().minutes.get(minute);
    return new int[] {s.man, s.cart, s.full, s.empties, s.did}[what];
  }

  int door(int minute, int door, int what) {
    if (!in(minute, 0, 47) || !in(door, 0, 11) || !in(what, 0, 2)) return BAD;
    Snapshot s = morning().minutes.get(minute);
    return new int[] {s.laid[door], s.stand[door], s.left[door]}[what];
  }

  int done(int door) {
    if (!in(door, 0, 11)) return BAD;
    Morning m = morning();
    if (m.told.wants[door] == 0) return 0;
    for (int minute = 0; minute < 48; minute++) if (m.wanting(door, minute) == 0) return minute;
    return NONE;
  }

  int sum(int what) {
    if (!in(what, 0, 4)) return BAD;
    Morning m = morning();
    return new int[] {m.walked, m.filled, m.broken, m.brought, m.left}[what];
  }

  int over() {
    Morning m = morning();
    for (int minute = 0; minute < 48; minute++) if (m.minutes.get(minute).did == 0) return minute;
    return NONE;
  }

  int lacks() {
    return morning().shortBits();
  }

  /** The least row by: how many are short, how far, what is named. */
  private static int[] best(List<int[]> rows) {
    return rows.stream().min((a, b) -> Arrays.compare(a, b)).orElse(null);
  }

  private static int[] row(Morning m, int... names) {
    int[] row = new int[2 + names.length];
    row[0] = m.shorts();
    row[1] = m.walked;
    System.arraycopy(names, 0, row, 2, names.length);
    return row;
  }

  int better(int what) {
    if (!in(what, 0, 2)) return BAD;
    List<int[]> rows = new ArrayList<>();
    for (int h = 0; h < 3; h++) rows.add(row(new Morning(told().withHorse(h)), h));
    int[] b = best(rows);
    return new int[] {b[2], b[0], b[1]}[what];
  }

  int fit(int what) {
    if (!in(what, 0, 2)) return BAD;
    List<int[]> rows = new ArrayList<>();
    for (int r = 1; r <= 8; r++) rows.add(row(new Morning(told().withRoom(r)), r));
    int[] b = best(rows);
    return new int[] {b[2], b[0], b[1]}[what];
  }

  int swap(int what) {
    if (!in(what, 0, 3)) return BAD;
    List<int[]> rows = new ArrayList<>();
    int places = roundTold().size();
    for (int i = 0; i < places; i++) {
      for (int j = i + 1; j < places; j++) {
        List<Integer> other = roundTold();
        java.util.Collections.swap(other, i, j);
        rows.add(row(new Morning(told().withRound(other)), i, j));
      }
    }
    int[] b = best(rows);
    return b == null ? NONE : new int[] {b[2], b[3], b[0], b[1]}[what];
  }

  private Morning without(int bits) {
    List<Event> rest = new ArrayList<>();
    for (int i = 0; i < events.size(); i++) if ((bits >> i & 1) == 0) rest.add(events.get(i));
    return new Morning(told().withEvents(rest));
  }

  int spare(int i) {
    if (!in(i, -1, 1)) return BAD;
    List<int[]> rows = new ArrayList<>();
    for (int bits = 0; bits < 1 << events.size(); bits++) {
      if (Integer.bitCount(bits) > 2) continue;
      Morning m = without(bits);
      if (m.broken > 0 || m.shorts() > 0) continue;
      int low = Integer.numberOfTrailingZeros(bits);
      int high = 31 - Integer.numberOfLeadingZeros(bits);
      int many = Integer.bitCount(bits);
      rows.add(new int[] {many, many > 0 ? low : NONE, many > 1 ? high : NONE});
    }
    int[] b = best(rows);
    return b == null ? NONE : b[i + 1];
  }

  int seen(int minute, int door) {
    if (!in(minute, 0, 47) || !in(door, 0, 11)) return BAD;
    if (sights.size() == 8) return FULL;
    sights.add(new Sight(minute, door));
    return sights.size();
  }

  int forget() {
    int had = sights.size();
    sights.clear();
    return had;
  }

  private final Predicate<Morning> asSeen =
      m -> this.sights.stream().allMatch(s -> m.minutes.get(s.minute).man == s.door);

  int never() {
    int bits = 0;
    for (int i = 0; i < events.size(); i++) if (asSeen.test(without(1 << i))) bits |= 1 << i;
    return bits;
  }

  int numbers(int door) {
    if (!in(door, 0, 11)) return BAD;
    int bits = 0;
    for (int n = 0; n <= 5; n++) {
      int[] wants = figures(0);
      wants[door] = n;
      if (asSeen.test(new Morning(told().withWants(wants)))) bits |= 1 << n;
    }
    return bits;
  }

  int might(int what) {
    int bits = 0;
    if (what == 0) for (int h = 0; h < 3; h++) if (asSeen.test(new Morning(told().withHorse(h)))) bits |= 1 << h;
    if (what == 1) for (int r = 1; r < 9; r++) if (asSeen.test(new Morning(told().withRoom(r)))) bits |= 1 << r;
    return in(what, 0, 1) ? bits : BAD;
  }

  int ask() {
    List<Morning> may = new ArrayList<>();
    for (int r = 1; r < 9; r++) {
      Morning m = new Morning(told().withRoom(r));
      if (asSeen.test(m)) may.add(m);
    }
    int best = NONE, least = 99;
    for (int minute = 47; minute >= 0; minute--) {
      TreeMap<Integer, Integer> crowd = new TreeMap<>();
      for (Morning m : may) crowd.merge(m.minutes.get(minute).man, 1, Integer::sum);
      int most = crowd.values().stream().max(Integer::compare).orElse(0);
      if (most <= least) {
        least = most;
        best = minute;
      }
    }
    return best;
  }

  long chance(int c, int door, int what) {
    if (!in(c, 0, 16) || !in(door, 0, 11) || !in(what, 0, 1)) return Long.MIN_VALUE + 2;
    BigInteger above = BigInteger.ZERO;
    for (int bits = 0; bits < 1 << events.size(); bits++) {
      if (without(bits).wanting(door, 47) > 0) continue;
      int gone = Integer.bitCount(bits);
      above = above.add(BigInteger.valueOf(16 - c).pow(gone).multiply(BigInteger.valueOf(c).pow(events.size() - gone)));
    }
    BigInteger below = BigInteger.valueOf(16).pow(events.size());
    BigInteger shared = above.gcd(below);
    return (what == 0 ? above : below).divide(shared).longValueExact();
  }

  int mornings(int seed, int n, int what) {
    if (!in(n, 0, 12) || !in(what, 0, 1)) return BAD;
    int[] wants = new int[12];
    long state = seed & 0xFFFFFFFFL;
    for (int d = 0; d < n; d++) {
      state = (1103515245L * state + 12345L) % (1L << 32);
      wants[d] = (int) (state / 65536 % 6);
    }
    Morning m = new Morning(told().withWants(wants));
    return what == 0 ? m.shorts() : m.walked;
  }

  private int found(int number) {
    finding = number;
    return -10 - number;
  }

  private int size(int s) {
    return java.lang.reflect.Array.getLength(sheets[s]);
  }

  private int form(int s) {
    return sheets[s] instanceof byte[] ? 0 : sheets[s] instanceof short[] ? 1 : 2;
  }

  private int item(int s, int i) {
    return java.lang.reflect.Array.getInt(sheets[s], i);
  }

  private void keep(int s, int i, int v) {
    if (sheets[s] instanceof byte[] b) b[i] = (byte) v;
    if (sheets[s] instanceof short[] b) b[i] = (short) v;
    if (sheets[s] instanceof int[] b) b[i] = v;
  }

  int sheet(int s, int form, int n) {
    if (!in(s, 0, 3) || !in(form, 0, 2) || n > 60) return BAD;
    if (n < 0) return found(5);
    sheets[s] = form == 0 ? new byte[n] : form == 1 ? new short[n] : new int[n];
    return n;
  }

  int lose(int s) {
    if (!in(s, 0, 3)) return BAD;
    if (sheets[s] == null) return found(1);
    int had = size(s);
    sheets[s] = null;
    return had;
  }

  int put(int s, int form, int i, int v) {
    if (!in(s, 0, 3) || !in(form, 0, 2)) return BAD;
    if (sheets[s] == null) return found(1);
    if (form(s) != form) return found(3);
    if (!in(i, 0, size(s) - 1)) return found(2);
    keep(s, i, v);
    return 1;
  }

  int get(int s, int form, int i) {
    int had = finding;
    int answer = Integer.MIN_VALUE;
    if (!in(s, 0, 3) || !in(form, 0, 2)) finding = had;
    else if (sheets[s] == null) found(1);
    else if (form(s) != form) found(3);
    else if (!in(i, 0, size(s) - 1)) found(2);
    else answer = item(s, i);
    return answer;
  }

  int copy(int s, int i, int t, int j, int n) {
    if (!in(s, 0, 3) || !in(t, 0, 3)) return BAD;
    if (sheets[s] == null || sheets[t] == null) return found(1);
    if (form(s) != form(t)) return found(4);
    if (i < 0 || j < 0 || n < 0 || (long) i + n > size(s) || (long) j + n > size(t)) return found(2);
    int[] taken = new int[n];
    for (int k = 0; k < n; k++) taken[k] = item(s, i + k);
    for (int k = 0; k < n; k++) keep(t, j + k, taken[k]);
    return 1;
  }

  int write(int what, int s) {
    if (!in(what, 0, 1) || !in(s, 0, 3)) return BAD;
    if (sheets[s] == null) return found(1);
    Morning m = morning();
    int n = 0;
    for (Snapshot at : m.minutes) {
      if (n == size(s)) break;
      keep(s, n, what == 0 ? at.man : at.cart);
      n++;
    }
    return n;
  }

  int count(int what) {
    int bytes = texts.get(0).size() + texts.get(1).size() + texts.get(2).size();
    int[] counts = {roundTold().size(), bytes, events.size(), Integer.bitCount(lacks()), horse, room, cart,
        sights.size(), finding};
    return in(what, 0, 8) ? counts[what] : BAD;
  }

  long digest() {
    List<Long> all = new ArrayList<>();
    for (int what = 0; what <= 7; what++) all.add((long) count(what));
    for (int text = 0; text < 3; text++) all.add((long) fault(text));
    for (int i = 0; i <= 23; i++) all.add((long) round(i));
    for (int m = 0; m <= 47; m++) for (int what = 0; what <= 4; what++) all.add((long) at(m, what));
    for (int d = 0; d < 12; d++) {
      for (int what = 0; what <= 1; what++) all.add((long) told(d, what));
      for (int what = 0; what <= 2; what++) all.add((long) door(8, d, what));
      for (int what = 0; what <= 2; what++) all.add((long) door(30, d, what));
      all.add((long) done(d));
      all.add((long) numbers(d));
      for (int what = 0; what <= 1; what++) all.add(chance(5, d, what));
    }
    for (int what = 0; what <= 4; what++) all.add((long) sum(what));
    all.add((long) over());
    all.add((long) lacks());
    for (int what = 0; what <= 2; what++) all.add((long) better(what));
    for (int what = 0; what <= 2; what++) all.add((long) fit(what));
    for (int what = 0; what <= 3; what++) all.add((long) swap(what));
    all.add((long) spare(NONE));
    all.add((long) spare(0));
    all.add((long) never());
    all.add((long) might(0));
    all.add((long) might(1));
    all.add((long) ask());
    all.add((long) mornings(7, 9, 0));
    all.add((long) mornings(7, 9, 1));
    long h = 17;
    for (long v : all) h = 31 * h + v;
    return h;
  }
}
