import java.util.Arrays;

/**
 * A milk round in a street of twelve doors. What is told (wants, empties, the round, the horse, the
 * crate, the cart, events) makes a morning of 48 minutes; every other answer is read off such a
 * morning, or off mornings in which one thing is otherwise.
 */
public final class MilkHorse {
    public static final int NONE = -1, BAD = -2, NOT = -3, FULL = -4;

    private static final int DOORS = 12, PLACES = 24, MINUTES = 48;
    private static final int HORSES = 3, ROOM_MOST = 8, CART_MOST = 60, WANT_MOST = 5;
    private static final int EVENTS_MOST = 8, SEEN_MOST = 8, SUBSETS = 1 << EVENTS_MOST;
    private static final int SHEETS = 4, FORMS = 3, ITEMS_MOST = 60;

    private static final int HORSE_KNOWS = 1, HORSE_IS_SLOW = 2;
    private static final int DOG = 0, WHISTLE = 1, CAT = 2, KINDS = 3;
    private static final int RESTED = 0, WENT = 1, FILLED = 2, SERVED = 3, STOOD = 4;
    private static final int ACT_ITEMS = 5, DOOR_ITEMS = 3, SUMS = 5;
    private static final int NULL_FOUND = 1, INDEX_FOUND = 2, CAST_FOUND = 3, STORE_FOUND = 4;
    private static final int SIZE_FOUND = 5;
    private static final int SIXTEEN = 16, SIXTEEN_BITS = 4;
    // written out, as the library's own names for them are not among what LANGUAGE.md lists
    private static final int LEAST_INT = 1 << 31;
    private static final long LEAST_LONG = 1L << 63;

    private final Text wantsText = new Text(DOORS, '0', '5');
    private final Text emptiesText = new Text(DOORS, '0', '5');
    private final Text roundText = new Text(PLACES, 'a', 'l');
    private final Events events = new Events();
    private final Sights sights = new Sights();
    private final Plan told = new Plan();
    private final Plan trial = new Plan();
    private final Walk walk = new Walk();
    private final Day day = new Day();
    private final Choice horses = new Choice();
    private final Choice rooms = new Choice();
    private final Choice swaps = new Choice();
    private final Spared spared = new Spared();
    private final Chances chances = new Chances();
    private final int[] crowds = new int[MINUTES * DOORS];
    private final Sheet[] sheets = new Sheet[SHEETS];
    private int finding = 0;

    public MilkHorse() {
        for (int s = 0; s < sheets.length; s++) sheets[s] = new Sheet();
    }

    // ---- doors, the round, the horse, the crate, the cart, events

    public int type(int text, int b) {
        Text t = textOf(text);
        if (t == null || b < 0 || b > 255) return BAD;
        int many = t.add(b);
        if (many != FULL) hearTexts();
        return many;
    }

    public int wipe(int text) {
        Text t = textOf(text);
        if (t == null) return BAD;
        int had = t.clear();
        hearTexts();
        return had;
    }

    public int undo(int text) {
        Text t = textOf(text);
        if (t == null) return BAD;
        int left = t.drop();
        if (left != NOT) hearTexts();
        return left;
    }

    public int fault(int text) {
        Text t = textOf(text);
        return t == null ? BAD : t.firstFault();
    }

    public int told(int door, int what) {
        if (!isDoor(door) || what < 0 || what > 1) return BAD;
        return what == 0 ? told.wants[door] : told.empties[door];
    }

    public int round(int i) {
        if (i < 0 || i >= PLACES) return BAD;
        return told.doorAt(i);
    }

    public int set(int what, int v) {
        int was;
        if (what == 0 && v >= 0 && v < HORSES) {
            was = told.horse;
            told.horse = v;
        } else if (what == 1 && v >= 1 && v <= ROOM_MOST) {
            was = told.room;
            told.room = v;
        } else if (what == 2 && v >= 0 && v <= CART_MOST) {
            was = told.cart;
            told.cart = v;
        } else {
            return BAD;
        }
        forgetMornings();
        return was;
    }

    public int event(int kind, int minute, int number) {
        int many = events.add(kind, minute, number);
        if (many > 0) forgetMornings();
        return many;
    }

    public int back() {
        int left = events.drop();
        if (left != NOT) forgetMornings();
        return left;
    }

    public int read(int s) {
        Sheet sheet = sheetOf(s);
        if (sheet == null) return BAD;
        if (sheet.lost) return found(NULL_FOUND);
        int many = 0;
        for (int i = 0; i + 2 < sheet.length && i + 2 < ITEMS_MOST; i += 3) {
            if (events.add(sheet.items[i], sheet.items[i + 1], sheet.items[i + 2]) < 0) break;
            many++;
        }
        if (many > 0) forgetMornings();
        return many;
    }

    // ---- minutes

    public int at(int minute, int what) {
        if (!isMinute(minute) || what < 0 || what >= ACT_ITEMS) return BAD;
        learnDay();
        return day.acts[minute * ACT_ITEMS + what];
    }

    public int door(int minute, int door, int what) {
        if (!isMinute(minute) || !isDoor(door) || what < 0 || what >= DOOR_ITEMS) return BAD;
        learnDay();
        return day.doors[(minute * DOORS + door) * DOOR_ITEMS + what];
    }

    public int done(int door) {
        if (!isDoor(door)) return BAD;
        learnDay();
        return day.doneIn[door];
    }

    public int sum(int what) {
        if (what < 0 || what >= SUMS) return BAD;
        learnDay();
        return day.sums[what];
    }

    public int over() {
        learnDay();
        return day.overIn;
    }

    public int lacks() {
        learnDay();
        return day.lacking;
    }

    // ---- plans

    public int better(int what) {
        if (what < 0 || what > 2) return BAD;
        if (!horses.known) {
            horses.clear();
            trial.take(told);
            for (int horse = 0; horse < HORSES; horse++) {
                trial.horse = horse;
                walk.run(trial, events, null);
                horses.offer(horse, NONE, walk.howManyLack(trial), walk.walked);
            }
        }
        return horses.ofOne(what);
    }

    public int fit(int what) {
        if (what < 0 || what > 2) return BAD;
        if (!rooms.known) {
            rooms.clear();
            trial.take(told);
            for (int room = 1; room <= ROOM_MOST; room++) {
                trial.room = room;
                walk.run(trial, events, null);
                rooms.offer(room, NONE, walk.howManyLack(trial), walk.walked);
            }
        }
        return rooms.ofOne(what);
    }

    public int swap(int what) {
        if (what < 0 || what > 3) return BAD;
        if (!swaps.known) learnSwaps();
        if (what == 1) return swaps.second;
        return swaps.ofOne(what == 0 ? 0 : what - 1);
    }

    public int spare(int i) {
        if (i < NONE || i > 1) return BAD;
        if (!spared.known) learnSpared();
        if (i == NONE) return spared.many;
        return i == 0 ? spared.first : spared.second;
    }

    // ---- seen, chance, mornings

    public int seen(int minute, int door) {
        if (!isMinute(minute) || !isDoor(door)) return BAD;
        return sights.add(minute, door);
    }

    public int forget() {
        return sights.clear();
    }

    public int never() {
        int bits = 0;
        trial.take(told);
        for (int i = 0; i < events.many; i++) {
            trial.absent = 1 << i;
            if (comesOutAsSeen()) bits |= 1 << i;
        }
        return bits;
    }

    public int numbers(int door) {
        if (!isDoor(door)) return BAD;
        int bits = 0;
        trial.take(told);
        for (int want = 0; want <= WANT_MOST; want++) {
            trial.wants[door] = want;
            if (comesOutAsSeen()) bits |= 1 << want;
        }
        return bits;
    }

    public int might(int what) {
        if (what < 0 || what > 1) return BAD;
        int bits = 0;
        int first = what == 0 ? 0 : 1;
        int last = what == 0 ? HORSES - 1 : ROOM_MOST;
        trial.take(told);
        for (int v = first; v <= last; v++) {
            if (what == 0) trial.horse = v;
            else trial.room = v;
            if (comesOutAsSeen()) bits |= 1 << v;
        }
        return bits;
    }

    public int ask() {
        gatherCrowds();
        int best = 0;
        int least = ROOM_MOST + 1;
        for (int minute = 0; minute < MINUTES; minute++) {
            int most = 0;
            for (int door = 0; door < DOORS; door++) {
                most = Math.max(most, crowds[minute * DOORS + door]);
            }
            if (most < least) {
                least = most;
                best = minute;
            }
        }
        return best;
    }

    public long chance(int c, int door, int what) {
        if (c < 0 || c > SIXTEEN || !isDoor(door) || what < 0 || what > 1) {
            return LEAST_LONG - BAD;
        }
        if (!chances.known) learnChances();
        long above = chances.weigh(c, door, events.many);
        long below = 1L << SIXTEEN_BITS * events.many;
        if (above == 0) return what;
        // what lies below is a power of two, so two is the only factor that both may share
        for (int k = 0; k < SIXTEEN_BITS * EVENTS_MOST && above % 2 == 0 && below % 2 == 0; k++) {
            above /= 2;
            below /= 2;
        }
        return what == 0 ? above : below;
    }

    public int mornings(int seed, int n, int what) {
        if (n < 0 || n > DOORS || what < 0 || what > 1) return BAD;
        trial.take(told);
        int lot = seed;
        for (int door = 0; door < DOORS; door++) {
            lot = 1103515245 * lot + 12345;
            trial.wants[door] = door < n ? (lot >>> 16) % (WANT_MOST + 1) : 0;
        }
        walk.run(trial, events, null);
        return what == 0 ? walk.howManyLack(trial) : walk.walked;
    }

    // ---- sheets

    public int sheet(int s, int form, int n) {
        Sheet sheet = sheetOf(s);
        if (sheet == null || !isForm(form) || n > ITEMS_MOST) return BAD;
        if (n < 0) return found(SIZE_FOUND);
        sheet.begin(form, n);
        return n;
    }

    public int lose(int s) {
        Sheet sheet = sheetOf(s);
        if (sheet == null) return BAD;
        if (sheet.lost) return found(NULL_FOUND);
        sheet.lost = true;
        return sheet.length;
    }

    public int put(int s, int form, int i, int v) {
        Sheet sheet = sheetOf(s);
        if (sheet == null || !isForm(form)) return BAD;
        int refusal = sheet.refusal(form, i);
        if (refusal != 0) return found(refusal);
        sheet.keep(i, v);
        return 1;
    }

    public int get(int s, int form, int i) {
        Sheet sheet = sheetOf(s);
        if (sheet == null || !isForm(form)) return LEAST_INT;
        int refusal = sheet.refusal(form, i);
        if (refusal != 0) {
            finding = refusal;
            return LEAST_INT;
        }
        return sheet.item(i);
    }

    public int copy(int s, int i, int t, int j, int n) {
        Sheet from = sheetOf(s);
        Sheet to = sheetOf(t);
        if (from == null || to == null) return BAD;
        if (from.lost || to.lost) return found(NULL_FOUND);
        if (from.form != to.form) return found(STORE_FOUND);
        if (!from.holds(i, n) || !to.holds(j, n)) return found(INDEX_FOUND);
        System.arraycopy(from.items, i, to.items, j, n);
        return 1;
    }

    public int write(int what, int s) {
        Sheet sheet = sheetOf(s);
        if (what < 0 || what > 1 || sheet == null) return BAD;
        if (sheet.lost) return found(NULL_FOUND);
        learnDay();
        int many = Math.min(sheet.length, MINUTES);
        for (int minute = 0; minute < many; minute++) {
            sheet.keep(minute, day.acts[minute * ACT_ITEMS + what]);
        }
        return many;
    }

    public int count(int what) {
        switch (what) {
            case 0: return told.places;
            case 1: return wantsText.length + emptiesText.length + roundText.length;
            case 2: return events.many;
            case 3:
                learnDay();
                return Integer.bitCount(day.lacking);
            case 4: return told.horse;
            case 5: return told.room;
            case 6: return told.cart;
            case 7: return sights.many;
            case 8: return finding;
            default: return BAD;
        }
    }

    public long digest() {
        long h = mixTold(17);
        h = mixMinutes(h);
        for (int door = 0; door < DOORS; door++) h = mixDoor(h, door);
        for (int what = 0; what < SUMS; what++) h = 31 * h + sum(what);
        h = 31 * h + over();
        h = 31 * h + lacks();
        for (int what = 0; what <= 2; what++) h = 31 * h + better(what);
        for (int what = 0; what <= 2; what++) h = 31 * h + fit(what);
        for (int what = 0; what <= 3; what++) h = 31 * h + swap(what);
        h = 31 * h + spare(NONE);
        h = 31 * h + spare(0);
        h = 31 * h + never();
        h = 31 * h + might(0);
        h = 31 * h + might(1);
        h = 31 * h + ask();
        h = 31 * h + mornings(7, 9, 0);
        return 31 * h + mornings(7, 9, 1);
    }

    // ---- parts of the digest

    private long mixTold(long start) {
        long h = start;
        for (int what = 0; what <= 7; what++) h = 31 * h + count(what);
        for (int text = 0; text <= 2; text++) h = 31 * h + fault(text);
        for (int i = 0; i < PLACES; i++) h = 31 * h + round(i);
        return h;
    }

    private long mixMinutes(long start) {
        long h = start;
        for (int minute = 0; minute < MINUTES; minute++) {
            for (int what = 0; what < ACT_ITEMS; what++) h = 31 * h + at(minute, what);
        }
        return h;
    }

    private long mixDoor(long start, int door) {
        long h = 31 * start + told(door, 0);
        h = 31 * h + told(door, 1);
        for (int what = 0; what < DOOR_ITEMS; what++) h = 31 * h + door(8, door, what);
        for (int what = 0; what < DOOR_ITEMS; what++) h = 31 * h + door(30, door, what);
        h = 31 * h + done(door);
        h = 31 * h + numbers(door);
        h = 31 * h + chance(5, door, 0);
        return 31 * h + chance(5, door, 1);
    }

    // ---- what things are

    private static boolean isDoor(int door) {
        return door >= 0 && door < DOORS;
    }

    private static boolean isMinute(int minute) {
        return minute >= 0 && minute < MINUTES;
    }

    private static boolean isForm(int form) {
        return form >= 0 && form < FORMS;
    }

    /** The text of that number; null: there is none. */
    private Text textOf(int text) {
        if (text == 0) return wantsText;
        if (text == 1) return emptiesText;
        return text == 2 ? roundText : null;
    }

    /** The sheet of that number, lost or not; null: there is none. */
    private Sheet sheetOf(int s) {
        return s < 0 || s >= sheets.length ? null : sheets[s];
    }

    private int found(int number) {
        finding = number;
        return -10 - number;
    }

    // ---- mornings that are kept until something else is told

    private void hearTexts() {
        wantsText.spell(told.wants);
        emptiesText.spell(told.empties);
        told.places = roundText.spell(told.round);
        forgetMornings();
    }

    private void forgetMornings() {
        day.known = false;
        horses.known = false;
        rooms.known = false;
        swaps.known = false;
        spared.known = false;
        chances.known = false;
    }

    private void learnDay() {
        if (day.known) return;
        day.begin();
        walk.run(told, events, day);
        day.end(walk, told);
    }

    private void learnSwaps() {
        swaps.clear();
        trial.take(told);
        int places = Math.min(told.places, PLACES);
        for (int i = 0; i < places; i++) {
            for (int j = i + 1; j < places; j++) {
                trial.round[i] = told.round[j];
                trial.round[j] = told.round[i];
                walk.run(trial, events, null);
                swaps.offer(i, j, walk.howManyLack(trial), walk.walked);
                trial.round[i] = told.round[i];
                trial.round[j] = told.round[j];
            }
        }
    }

    private void learnSpared() {
        spared.keep(NONE, NONE, NONE);
        if (isWellWithout(0)) {
            spared.keep(0, NONE, NONE);
            return;
        }
        for (int i = 0; i < events.many; i++) {
            if (isWellWithout(1 << i)) {
                spared.keep(1, i, NONE);
                return;
            }
        }
        for (int i = 0; i < events.many; i++) {
            for (int j = i + 1; j < events.many; j++) {
                if (isWellWithout(1 << i | 1 << j)) {
                    spared.keep(2, i, j);
                    return;
                }
            }
        }
    }

    private boolean isWellWithout(int absent) {
        trial.take(told);
        trial.absent = absent;
        walk.run(trial, events, null);
        return walk.broken == 0 && walk.lacking(trial) == 0;
    }

    private void learnChances() {
        trial.take(told);
        for (int subset = 0; subset < SUBSETS && subset < 1 << events.many; subset++) {
            trial.absent = ~subset;
            walk.run(trial, events, null);
            chances.lacking[subset] = walk.lacking(trial);
        }
        chances.known = true;
    }

    private boolean comesOutAsSeen() {
        walk.run(trial, events, null);
        return sights.agreeWith(walk.trace);
    }

    /** Counts, of each minute and door, the rooms by which the man is there and all is as seen. */
    private void gatherCrowds() {
        Arrays.fill(crowds, 0);
        trial.take(told);
        for (int room = 1; room <= ROOM_MOST; room++) {
            trial.room = room;
            if (!comesOutAsSeen()) continue;
            for (int minute = 0; minute < MINUTES; minute++) {
                int door = walk.trace[minute];
                if (isDoor(door)) crowds[minute * DOORS + door]++;
            }
        }
    }

    /** Bytes as typed, of which each should lie between two signs. */
    private static final class Text {
        private final int[] bytes = new int[PLACES];
        private final int most;
        private final int low;
        private final int high;
        private int length = 0;

        Text(int most, int low, int high) {
            this.most = most;
            this.low = low;
            this.high = high;
        }

        int add(int b) {
            if (length < 0 || length >= most || length >= bytes.length) return FULL;
            bytes[length] = b;
            length++;
            return length;
        }

        int clear() {
            int had = length;
            length = 0;
            return had;
        }

        int drop() {
            if (length <= 0) return NOT;
            length--;
            return length;
        }

        int firstFault() {
            for (int i = 0; i < length && i < bytes.length; i++) {
                if (bytes[i] < low || bytes[i] > high) return i;
            }
            return NONE;
        }

        /** Puts what the bytes mean into a row, 0 behind them: how many there are. */
        int spell(int[] row) {
            int many = firstFault() == NONE ? length : 0;
            for (int i = 0; i < row.length && i < bytes.length; i++) {
                row[i] = i < many ? bytes[i] - low : 0;
            }
            return many;
        }
    }

    private static final class Events {
        private final int[] kinds = new int[EVENTS_MOST];
        private final int[] minutes = new int[EVENTS_MOST];
        private final int[] numbers = new int[EVENTS_MOST];
        private int many = 0;

        int add(int kind, int minute, int number) {
            if (kind < 0 || kind >= KINDS || !isMinute(minute) || !isDoor(number)) return BAD;
            if (many < 0 || many >= EVENTS_MOST) return FULL;
            kinds[many] = kind;
            minutes[many] = minute;
            numbers[many] = number;
            many++;
            return many;
        }

        int drop() {
            if (many <= 0) return NOT;
            many--;
            return many;
        }
    }

    /** Where the man was seen. */
    private static final class Sights {
        private final int[] minutes = new int[SEEN_MOST];
        private final int[] doors = new int[SEEN_MOST];
        private int many = 0;

        int add(int minute, int door) {
            if (many < 0 || many >= SEEN_MOST) return FULL;
            minutes[many] = minute;
            doors[many] = door;
            many++;
            return many;
        }

        int clear() {
            int had = many;
            many = 0;
            return had;
        }

        boolean agreeWith(int[] trace) {
            for (int i = 0; i < many && i < SEEN_MOST; i++) {
                int minute = minutes[i];
                if (minute < 0 || minute >= trace.length || trace[minute] != doors[i]) return false;
            }
            return true;
        }
    }

    /** What a morning goes by, but for the events; of these it tells which are not. */
    private static final class Plan {
        private final int[] wants = new int[DOORS];
        private final int[] empties = new int[DOORS];
        private final int[] round = new int[PLACES];
        private int places = 0;
        private int horse = HORSE_KNOWS;
        private int room = 4;
        private int cart = 40;
        private int absent = 0;

        void take(Plan other) {
            System.arraycopy(other.wants, 0, wants, 0, DOORS);
            System.arraycopy(other.empties, 0, empties, 0, DOORS);
            System.arraycopy(other.round, 0, round, 0, PLACES);
            places = other.places;
            horse = other.horse;
            room = other.room;
            cart = other.cart;
            absent = other.absent;
        }

        /** The door at a place of the round; NONE: there is none. */
        int doorAt(int place) {
            return place < 0 || place >= places || place >= PLACES ? NONE : round[place];
        }
    }

    /** A morning as it goes: how all stands behind the minute that was done last. */
    private static final class Walk {
        private final int[] laid = new int[DOORS];
        private final int[] standing = new int[DOORS];
        private final int[] empties = new int[DOORS];
        private final int[] trace = new int[MINUTES];
        private int man;
        private int cart;
        private int cartHas;
        private int crateFull;
        private int crateEmpties;
        private int place;
        private boolean cartWasBare;
        private int dogs;
        private int did;
        private int walked;
        private int filled;
        private int broken;
        private int brought;

        /** Goes through all minutes; a day, if there is one, takes down each. */
        void run(Plan plan, Events events, Day day) {
            begin(plan);
            for (int minute = 0; minute < MINUTES; minute++) {
                befall(plan.absent, events, minute);
                act(plan);
                drive(plan.horse, minute);
                trace[minute] = man;
                if (day != null) day.note(this, plan.wants, minute);
            }
        }

        private void begin(Plan plan) {
            Arrays.fill(laid, 0);
            Arrays.fill(standing, 0);
            System.arraycopy(plan.empties, 0, empties, 0, DOORS);
            man = 0;
            cart = 0;
            cartHas = plan.cart;
            crateFull = 0;
            crateEmpties = 0;
            place = 0;
            cartWasBare = false;
            walked = 0;
            filled = 0;
            broken = 0;
            brought = 0;
        }

        private void befall(int absent, Events events, int minute) {
            dogs = 0;
            for (int i = 0; i < events.many && i < EVENTS_MOST; i++) {
                if (events.minutes[i] != minute || (absent >> i & 1) != 0) continue;
                int kind = events.kinds[i];
                int number = events.numbers[i];
                if (kind == DOG) dogs |= 1 << number;
                else if (kind == WHISTLE) pullCart(3);
                else if (kind == CAT) breakOne(number);
            }
        }

        private void breakOne(int door) {
            if (!isDoor(door) || standing[door] == 0) return;
            standing[door]--;
            broken++;
        }

        private void pullCart(int most) {
            cart += Math.max(-most, Math.min(most, man - cart));
        }

        private void act(Plan plan) {
            int door = cartWasBare ? NONE : plan.doorAt(place);
            if (!isDoor(door)) {
                did = RESTED;
                return;
            }
            boolean forCart = crateFull == 0 && plan.wants[door] > laid[door];
            int goal = forCart ? cart : door;
            if (man != goal) goTowards(goal);
            else if (forCart) fillCrate(plan.room);
            else serve(plan, door);
        }

        private void goTowards(int goal) {
            int next = goal > man ? man + 1 : man - 1;
            if (hasDog(next)) {
                did = STOOD;
                return;
            }
            man = next;
            walked++;
            did = WENT;
        }

        private boolean hasDog(int door) {
            return (dogs >> door & 1) != 0;
        }

        private void fillCrate(int room) {
            brought += crateEmpties;
            crateEmpties = 0;
            cartWasBare = cartHas == 0;
            crateFull = Math.min(room, cartHas);
            cartHas -= crateFull;
            filled++;
            did = FILLED;
        }

        private void serve(Plan plan, int door) {
            if (!isDoor(door) || hasDog(door)) {
                did = STOOD;
                return;
            }
            int lay = Math.min(plan.wants[door] - laid[door], crateFull);
            laid[door] += lay;
            standing[door] += lay;
            crateFull -= lay;
            int lift = Math.min(empties[door], plan.room - crateFull - crateEmpties);
            empties[door] -= lift;
            crateEmpties += lift;
            if (laid[door] >= plan.wants[door]) place++;
            did = SERVED;
        }

        private void drive(int horse, int minute) {
            boolean knowsAndIsFar = horse == HORSE_KNOWS && Math.abs(man - cart) >= 2;
            boolean slowAndItIsTime = horse == HORSE_IS_SLOW && minute % 2 == 0;
            if (knowsAndIsFar || slowAndItIsTime) pullCart(1);
        }

        /** The doors that still want any, as bits. */
        int lacking(Plan plan) {
            int bits = 0;
            for (int door = 0; door < DOORS; door++) {
                if (plan.wants[door] > laid[door]) bits |= 1 << door;
            }
            return bits;
        }

        int howManyLack(Plan plan) {
            return Integer.bitCount(lacking(plan));
        }
    }

    /** The morning as told, minute by minute. */
    private static final class Day {
        private final int[] acts = new int[MINUTES * ACT_ITEMS];
        private final int[] doors = new int[MINUTES * DOORS * DOOR_ITEMS];
        private final int[] doneIn = new int[DOORS];
        private final int[] sums = new int[SUMS];
        private int overIn = NONE;
        private int lacking = 0;
        private boolean known = false;

        void begin() {
            Arrays.fill(doneIn, NONE);
            overIn = NONE;
        }

        void note(Walk walk, int[] wants, int minute) {
            if (!isMinute(minute) || wants.length < DOORS) return;
            int a = minute * ACT_ITEMS;
            acts[a] = walk.man;
            acts[a + 1] = walk.cart;
            acts[a + 2] = walk.crateFull;
            acts[a + 3] = walk.crateEmpties;
            acts[a + 4] = walk.did;
            if (walk.did == RESTED && overIn == NONE) overIn = minute;
            for (int door = 0; door < DOORS; door++) {
                int d = (minute * DOORS + door) * DOOR_ITEMS;
                doors[d] = walk.laid[door];
                doors[d + 1] = walk.standing[door];
                doors[d + 2] = walk.empties[door];
                if (doneIn[door] == NONE && walk.laid[door] >= wants[door]) doneIn[door] = minute;
            }
        }

        void end(Walk walk, Plan plan) {
            sums[0] = walk.walked;
            sums[1] = walk.filled;
            sums[2] = walk.broken;
            sums[3] = walk.brought;
            sums[4] = walk.cartHas;
            lacking = walk.lacking(plan);
            known = true;
        }
    }

    /** The best of what was offered: fewest that lack, then least walked, then the earliest offer. */
    private static final class Choice {
        private int first = NONE;
        private int second = NONE;
        private int lacking = NONE;
        private int walked = NONE;
        private boolean known = false;

        void clear() {
            first = NONE;
            second = NONE;
            lacking = NONE;
            walked = NONE;
            known = true;
        }

        void offer(int a, int b, int howManyLack, int howFar) {
            boolean fewer = first == NONE || howManyLack < lacking;
            if (!fewer && (howManyLack > lacking || howFar >= walked)) return;
            first = a;
            second = b;
            lacking = howManyLack;
            walked = howFar;
        }

        /** Which (0), how many lack (1), how far (2). */
        int ofOne(int what) {
            if (what == 0) return first;
            return what == 1 ? lacking : walked;
        }
    }

    /** The events that had better not be. */
    private static final class Spared {
        private int many = NONE;
        private int first = NONE;
        private int second = NONE;
        private boolean known = false;

        void keep(int howMany, int one, int other) {
            many = howMany;
            first = one;
            second = other;
            known = true;
        }
    }

    /** Which doors lack by each set of events that are. */
    private static final class Chances {
        private final int[] lacking = new int[SUBSETS];
        private final long[] weights = new long[EVENTS_MOST + 1];
        private boolean known = false;

        /** How many of 16 to the number of events leave the door wanting no more. */
        long weigh(int c, int door, int many) {
            for (int k = 0; k <= many && k <= EVENTS_MOST; k++) weights[k] = weight(c, k, many);
            long above = 0;
            for (int subset = 0; subset < SUBSETS && subset < 1 << many; subset++) {
                if ((lacking[subset] >> door & 1) == 0) above += weights[Integer.bitCount(subset)];
            }
            return above;
        }

        private static long weight(int c, int present, int many) {
            long product = 1;
            for (int i = 0; i < many && i < EVENTS_MOST; i++) {
                product *= i < present ? c : SIXTEEN - c;
            }
            return product;
        }
    }

    /** A row of bytes, shorts or ints, held as ints that were cut to what the form has. */
    private static final class Sheet {
        private final int[] items = new int[ITEMS_MOST];
        private int form = 0;
        private int length = 0;
        private boolean lost = true;

        void begin(int newForm, int n) {
            Arrays.fill(items, 0);
            form = newForm;
            length = n;
            lost = false;
        }

        /** The number of the finding that an item, treated as of a form, meets; 0: none. */
        int refusal(int asForm, int i) {
            if (lost) return NULL_FOUND;
            if (asForm != form) return CAST_FOUND;
            return i < 0 || i >= length ? INDEX_FOUND : 0;
        }

        void keep(int i, int v) {
            if (i < 0 || i >= length || i >= items.length) return;
            if (form == 0) items[i] = (byte) v;
            else if (form == 1) items[i] = (short) v;
            else items[i] = v;
        }

        int item(int i) {
            return i < 0 || i >= items.length ? 0 : items[i];
        }

        boolean holds(int from, int n) {
            return from >= 0 && n >= 0 && from <= length && n <= length - from;
        }
    }
}
