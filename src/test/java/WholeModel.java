import java.math.BigInteger;
import java.util.ArrayDeque;
import java.util.ArrayList;
import java.util.Deque;
import java.util.HashSet;
import java.util.List;
import java.util.Set;

/** The whole document a second time, in the plainest way the Java library gives, with no thought for what it costs. */
final class WholeModel {
  private static final int BAD = -1, NOT = -2, FULL = -3, STATE = -5, NOTHING = -11, OTHER = -12, NO_PLACE = -13;
  private static final int BELOW = -14;
  private static final long NONE = Long.MIN_VALUE;

  /** All that a day changes. */
  private record Day(int today, int cell, int store, int dust, Set<Integer> looked, boolean could) {}

  private record Led(int order, boolean could) {}

  private record Change(int number, int what, int was, int is) {}

  private record Body(int kind, int number) {}

  private record Row(int sort, long[] elements) {}

  private final int[][] told = {new int[36], new int[36], new int[60], new int[60], {6}, {2}};
  private final List<Led> days = new ArrayList<>();
  private final StringBuilder tape = new StringBuilder();
  private final Deque<Change> done = new ArrayDeque<>();
  private final Deque<Change> undone = new ArrayDeque<>();
  private final List<Body> bodies = new ArrayList<>();
  private final List<Integer> trace = new ArrayList<>();
  private final Object[] shelves = new Object[6];
  private String law;
  private Day now = new Day(0, 0, 50, 0, Set.of(), true);
  private Day image;

  WholeModel() {
    for (int day = 0; day < 60; day++) {
      told[2][day] = 8;
      told[3][day] = 3;
    }
  }

  private static boolean in(int v, int least, int most) {
    return least <= v && v <= most;
  }

  // ---- the plain, days

  private boolean isTold(int number, int what) {
    return in(what, 0, 5) && in(number, 0, told[what].length - 1);
  }

  private static boolean mayBe(int what, long v) {
    switch (what) {
      case 0: case 3: return v >= 0 && v <= 9;
      case 1: return v == 0 || v == 1;
      case 2: return v >= 0 && v <= 20;
      case 4: return v >= 1 && v <= 6;
      default: return v >= 0 && v <= 12;
    }
  }

  int mend(int number, int what, int v) {
    if (!isTold(number, what) || !mayBe(what, v)) return BAD;
    int was = told[what][number];
    if (v != was) {
      told[what][number] = v;
      done.push(new Change(number, what, was, v));
      if (done.size() > 40) done.removeLast();
      undone.clear();
    }
    return was;
  }

  int of(int number, int what) {
    if (isTold(number, what)) return told[what][number];
    if (what == 10 && in(number, 0, 35)) return isHollow(number) ? 1 : 0;
    if (what == 11 && in(number, 0, 35)) return now.looked.contains(number) ? 1 : 0;
    if (number != 0) return BAD;
    if (what == 20) return now.today;
    if (what == 21) return now.cell;
    if (what == 22) return now.store;
    if (what == 23) return now.dust;
    return what == 24 ? now.looked.size() : BAD;
  }

  private static List<Integer> neighbours(int cell) {
    List<Integer> all = new ArrayList<>();
    for (int way = 1; way <= 4; way++) {
      if (there(cell, way) >= 0) all.add(there(cell, way));
    }
    return all;
  }

  private static int there(int cell, int way) {
    int[] down = {0, -1, 0, 1, 0};
    int[] right = {0, 0, 1, 0, -1};
    int r = cell / 6 + down[way];
    int c = cell % 6 + right[way];
    return in(r, 0, 5) && in(c, 0, 5) ? 6 * r + c : -1;
  }

  private boolean isHollow(int cell) {
    return neighbours(cell).stream().allMatch(there -> told[0][cell] < told[0][there]);
  }

  private int costOf(int cell, int there) {
    int higher = told[0][there] - told[0][cell];
    return 3 + (higher > 0 ? 2 * higher : 0) + 6 - told[4][0];
  }

  int heights(int shelf, int i, int cn) {
    if (!in(shelf, 0, 5) || !in(cn, 0, 3599) || !in(cn % 100, 1, 36)) return BAD;
    if (shelves[shelf] != null && !isBytes(shelf)) return OTHER;
    int came = 0;
    while (came < cn % 100 && shelves[shelf] != null && cn / 100 + came <= 35) {
      long place = (long) i + came;
      long[] elements = ((Row) shelves[shelf]).elements;
      if (place < 0 || place >= elements.length || !mayBe(0, elements[(int) place])) break;
      told[0][cn / 100 + came] = (int) elements[(int) place];
      came++;
    }
    return came;
  }

  int feed(int letter) {
    if (!in(letter, 0, 255)) return BAD;
    if (tape.length() == 120) return FULL;
    tape.append((char) letter);
    return tape.length();
  }

  int law() {
    String text = tape.toString();
    tape.setLength(0);
    int fault = FaultModel.fault(text);
    if (fault >= 0) return -100 - fault;
    law = text;
    return 1;
  }

  int cost(int cell, int way) {
    if (!in(cell, 0, 35) || !in(way, 1, 4)) return BAD;
    return there(cell, way) < 0 ? NOT : costOf(cell, there(cell, way));
  }

  int order() {
    return now.today == 60 ? STATE : orderOf(now);
  }

  private int orderOf(Day d) {
    int onNew = isOnNew(d) ? 1 : 0;
    if (law == null) return onNew == 1 ? 5 : 0;
    int[] names = {d.store, d.dust, d.today, told[0][d.cell], onNew, told[3][d.today], d.cell};
    int value = LawModel.value(law, names);
    return value < 0 ? 0 : value % 6;
  }

  private boolean isOnNew(Day d) {
    return told[1][d.cell] == 1 && !d.looked.contains(d.cell);
  }

  // ---- in deed

  private Day lived(Day d, int order) {
    return lived(d, order, told[2][d.today], told[3][d.today]);
  }

  private Day lived(Day d, int order, int sun, int wind) {
    int cell = d.cell;
    int store = d.store;
    Set<Integer> looked = d.looked;
    boolean could = order == 0;
    if (in(order, 1, 4) && there(cell, order) >= 0 && store >= costOf(cell, there(cell, order))) {
      could = true;
      store -= costOf(cell, there(cell, order));
      cell = there(cell, order);
    }
    if (order == 5 && isOnNew(d) && store >= 2) {
      could = true;
      store -= 2;
      looked = new HashSet<>(looked);
      looked.add(cell);
    }
    int dust = d.dust;
    int light = sun - dust / 2;
    store += light < 0 ? 0 : light;
    store -= isHollow(cell) ? 2 : 4;
    store = store < 0 ? 0 : store > 99 ? 99 : store;
    if (d.today % 3 == 0) dust = dust == 9 ? 9 : dust + 1;
    if (wind >= 7 && !isHollow(cell)) dust = 0;
    return new Day(d.today + 1, cell, store, dust, looked, could);
  }

  int day(int order) {
    if (!in(order, 0, 5)) return BAD;
    if (now.today == 60) return STATE;
    now = lived(now, order);
    days.add(new Led(order, now.could));
    return now.could ? 1 : 0;
  }

  int days(int n) {
    if (!in(n, 1, 60)) return BAD;
    if (now.today + n > 60) return STATE;
    int could = 0;
    for (int k = 0; k < n; k++) could += day(orderOf(now));
    return could;
  }

  int led(int day, int what) {
    if (!in(day, 0, days.size() - 1) || !in(what, 0, 1)) return BAD;
    return what == 0 ? days.get(day).order : days.get(day).could ? 1 : 0;
  }

  // ---- in thought

  private boolean isBytes(int shelf) {
    return shelves[shelf] instanceof Row row && row.sort == 0;
  }

  private int refusedBytes(int shelf) {
    return shelves[shelf] == null ? NOTHING : isBytes(shelf) ? 0 : OTHER;
  }

  private long[] bytes(int shelf) {
    return ((Row) shelves[shelf]).elements;
  }

  private static int orderBy(long element) {
    return element >= 0 && element <= 5 ? (int) element : 0;
  }

  private int asked(Day d, int what) {
    switch (what) {
      case 0: return d.cell;
      case 1: return d.store;
      case 2: return d.dust;
      default: return d.looked.size() - now.looked.size();
    }
  }

  int run(int shelf, int k, int what) {
    if (!in(shelf, 0, 5) || k < 0 || !in(what, 0, 3)) return BAD;
    if (refusedBytes(shelf) != 0) return refusedBytes(shelf);
    if (k > bytes(shelf).length || k > 60 - now.today) return STATE;
    Day d = now;
    for (int n = 0; n < k; n++) d = lived(d, orderBy(bytes(shelf)[n]));
    return asked(d, what);
  }

  int first(int shelf) {
    if (!in(shelf, 0, 5)) return BAD;
    if (refusedBytes(shelf) != 0) return refusedBytes(shelf);
    Day d = now;
    for (long element : bytes(shelf)) {
      if (d.today == 60) return NOT;
      d = lived(d, orderBy(element));
      if (!d.could) return d.today - 1 - now.today;
    }
    return NOT;
  }

  int lawful(int k, int what) {
    if (!in(k, 0, 60) || !in(what, 0, 3)) return BAD;
    if (now.today + k > 60) return STATE;
    Day d = now;
    for (int n = 0; n < k; n++) d = lived(d, orderOf(d));
    return asked(d, what);
  }

  /** What the cheapest ways from a cell cost, paid over and over until nothing gets cheaper. */
  private int[] costsFrom(int from) {
    int[] all = new int[36];
    for (int cell = 0; cell < 36; cell++) all[cell] = cell == from ? 0 : 1 << 20;
    boolean cheaper = true;
    while (cheaper) {
      cheaper = false;
      for (int cell = 0; cell < 36; cell++) {
        for (int there : neighbours(cell)) {
          if (all[cell] + costOf(cell, there) < all[there]) {
            all[there] = all[cell] + costOf(cell, there);
            cheaper = true;
          }
        }
      }
    }
    return all;
  }

  int cheapest(int ab, int what) {
    if (ab < 0 || ab / 100 > 35 || ab % 100 > 35 || !in(what, 0, 1)) return BAD;
    int from = ab / 100;
    int to = ab % 100;
    int least = costsFrom(from)[to];
    if (what == 0) return least;
    if (from == to) return NOT;
    for (int there : neighbours(from)) {
      if (costOf(from, there) + costsFrom(there)[to] == least) return there;
    }
    return NOT;
  }

  int soonest(int cell, int what) {
    if (!in(cell, 0, 35) || !in(what, 0, 1)) return BAD;
    Set<Day> all = new HashSet<>(Set.of(bare(now)));
    for (int n = 0; n <= 20 && n <= 60 - now.today; n++) {
      int most = -1;
      for (Day d : all) if (d.cell == cell) most = Math.max(most, d.store);
      if (most >= 0) return what == 0 ? n : most;
      if (now.today + n == 60) break;
      Set<Day> next = new HashSet<>();
      for (Day d : all) {
        for (int order = 0; order <= 4; order++) next.add(bare(lived(d, order)));
      }
      all = next;
    }
    return NOT;
  }

  private static Day bare(Day d) {
    return new Day(d.today, d.cell, d.store, d.dust, Set.of(), true);
  }

  int round(int what) {
    if (!in(what, 0, 1)) return BAD;
    List<Integer> left = new ArrayList<>();
    for (int cell = 0; cell < 36; cell++) {
      if (told[1][cell] == 1 && !now.looked.contains(cell)) left.add(cell);
    }
    if (left.size() > 5) return STATE;
    if (what == 0) return leastRound(now.cell, left);
    int first = NOT;
    for (int stone : left) {
      int whole = costsFrom(now.cell)[stone] + leastRound(stone, without(left, stone));
      if (first == NOT && whole == leastRound(now.cell, left)) first = stone;
    }
    return first;
  }

  private static List<Integer> without(List<Integer> stones, int stone) {
    List<Integer> rest = new ArrayList<>(stones);
    rest.remove((Integer) stone);
    return rest;
  }

  private int leastRound(int from, List<Integer> stones) {
    int[] costs = costsFrom(from);
    int least = 1 << 20;
    if (stones.isEmpty()) {
      for (int north = 0; north < 6; north++) least = Math.min(least, costs[north]);
    }
    for (int stone : stones) least = Math.min(least, costs[stone] + leastRound(stone, without(stones, stone)));
    return least;
  }

  int lasts(int x) {
    if (!in(x, 0, 20)) return BAD;
    Day d = now;
    while (d.today < 60) {
      d = lived(d, 0, Math.max(0, told[2][d.today] - x), told[3][d.today]);
      if (d.store == 0) return d.today - 1;
    }
    return NOT;
  }

  long clean(int y, int what, int part) {
    if (!in(y, 0, 8) || !in(what, 0, 1) || !in(part, 0, 1)) return NONE;
    // of 12 to the y-th rows of winds alike: those that were calm so far, and how long all wait together
    BigInteger calm = BigInteger.ONE;
    BigInteger waited = BigInteger.ZERO;
    BigInteger rows = BigInteger.ONE;
    for (int n = 0; n < y; n++) {
      waited = waited.add(calm).multiply(BigInteger.valueOf(12));
      calm = calm.multiply(BigInteger.valueOf(12 - told[5][0]));
      rows = rows.multiply(BigInteger.valueOf(12));
    }
    BigInteger above = what == 0 ? rows.subtract(calm) : waited;
    return (part == 0 ? above : rows).divide(above.gcd(rows)).longValueExact();
  }

  long line(int shelf, int what) {
    if (!in(shelf, 0, 5) || !in(what, 0, 1) || !isBytes(shelf)) return NONE;
    long cells = 0;
    for (int from = 0; from < 36; from++) {
      int at = from;
      for (long way : bytes(shelf)) {
        if (at >= 0) at = way >= 1 && way <= 4 ? there(at, (int) way) : -1;
      }
      if (at >= 0) cells |= 1L << (what == 0 ? from : at);
    }
    return cells;
  }

  int drawn(int seed, int n, int what) {
    if (!in(n, 1, 30) || !in(what, 0, 1)) return BAD;
    int z = seed;
    int dark = 0;
    int sum = 0;
    for (int time = 0; time < n; time++) {
      int least = 1;
      Day d = now;
      while (d.today < 60) {
        z = z * 1103515245 + 12345;
        d = lived(d, 0, told[2][d.today], (z >>> 8) % 12 < told[5][0] ? 9 : 0);
        least = Math.min(least, d.store);
      }
      if (least == 0) dark++;
      sum += d.store;
    }
    return what == 0 ? dark : sum;
  }

  int judge(int shelf) {
    if (!in(shelf, 0, 5)) return BAD;
    if (refusedBytes(shelf) != 0) return refusedBytes(shelf);
    Day d = now;
    for (long store : bytes(shelf)) {
      if (d.today == 60) return NOT;
      d = lived(d, 0);
      if (d.store != store) return d.today - 1 - now.today;
    }
    return NOT;
  }

  /** STORE behind k days of staying, or behind day 59. */
  int staying(int k) {
    Day d = now;
    for (int n = 0; n < k && d.today < 60; n++) d = lived(d, 0);
    return d.store;
  }

  int image() {
    image = now;
    return now.today;
  }

  int back() {
    if (image == null) return STATE;
    now = image;
    while (days.size() > now.today) days.remove(days.size() - 1);
    return now.today;
  }

  int undo() {
    if (done.isEmpty()) return STATE;
    Change c = done.pop();
    told[c.what][c.number] = c.was;
    undone.push(c);
    return done.size();
  }

  int redo() {
    if (undone.isEmpty()) return STATE;
    Change c = undone.pop();
    told[c.what][c.number] = c.is;
    done.push(c);
    return undone.size();
  }

  // ---- acts, shelves: kinds as classes, so that the host itself finds the body that runs

  int body(int kind) {
    if (!in(kind, 0, 7)) return BAD;
    if (bodies.size() == 50) return FULL;
    bodies.add(new Body(kind, bodies.size()));
    return bodies.size() - 1;
  }

  int act(int body, int act, int x) {
    trace.clear();
    if (!in(body, 0, bodies.size() - 1) || !in(act, 0, 3)) return 0;
    Body acting = bodies.get(body);
    return WheelModel.act(WheelModel.of(acting.kind, acting.number, trace), act, x);
  }

  int trace(int i) {
    return in(i, 0, Math.min(24, trace.size()) - 1) ? trace.get(i) : BAD;
  }

  int keep(int shelf, int body) {
    if (!in(shelf, 0, 5) || !in(body, -1, bodies.size() - 1)) return BAD;
    shelves[shelf] = body == -1 ? null : bodies.get(body);
    return 1;
  }

  int row(int shelf, int sort, int n) {
    if (!in(shelf, 0, 5) || !in(sort, 0, 4) || n > 60) return BAD;
    if (n < 0) return BELOW;
    shelves[shelf] = new Row(sort, new long[n]);
    return 1;
  }

  private int refusedPlace(int shelf, int i) {
    if (!in(shelf, 0, 5)) return BAD;
    if (shelves[shelf] == null) return NOTHING;
    if (!(shelves[shelf] instanceof Row row)) return OTHER;
    return in(i, 0, row.elements.length - 1) ? 0 : NO_PLACE;
  }

  int put(int shelf, int i, long v) {
    if (refusedPlace(shelf, i) != 0) return refusedPlace(shelf, i);
    Row row = (Row) shelves[shelf];
    int[] bits = {8, 16, 32, 64};
    if (row.sort == 4) row.elements[i] = v == 0 ? 0 : 1;
    else row.elements[i] = v << 64 - bits[row.sort] >> 64 - bits[row.sort];
    return 1;
  }

  long element(int shelf, int i) {
    return refusedPlace(shelf, i) != 0 ? NONE : ((Row) shelves[shelf]).elements[i];
  }

  int shift(int shelf, int i, int other, int j, int n) {
    if (!in(shelf, 0, 5) || !in(other, 0, 5)) return BAD;
    if (shelves[shelf] == null || shelves[other] == null) return NOTHING;
    if (!(shelves[shelf] instanceof Row from) || !(shelves[other] instanceof Row to)) return OTHER;
    if (from.sort != to.sort) return OTHER;
    if (i < 0 || j < 0 || n < 0) return NO_PLACE;
    if ((long) i + n > from.elements.length || (long) j + n > to.elements.length) return NO_PLACE;
    long[] before = from.elements.clone();
    for (int k = 0; k < n; k++) to.elements[j + k] = before[i + k];
    return n;
  }

  /** How many elements a row of that sort has; -1: the shelf holds none. */
  int lengthOf(int shelf, int sort) {
    return in(shelf, 0, 5) && shelves[shelf] instanceof Row row && row.sort == sort ? row.elements.length : -1;
  }

  int taken(int shelf, int k) {
    if (!in(shelf, 0, 5) || !in(k, 0, 7)) return BAD;
    if (shelves[shelf] == null) return NOTHING;
    if (!(shelves[shelf] instanceof Body body)) return OTHER;
    WheelModel.Wheel one = WheelModel.of(body.kind, body.number, new ArrayList<>());
    return WheelModel.of(k, 0, new ArrayList<>()).getClass().isInstance(one) ? body.kind : OTHER;
  }

  int count(int what) {
    int n = 0;
    switch (what) {
      case 0:
        for (int stone : told[1]) n += stone;
        return n;
      case 1:
        for (int cell = 0; cell < 36; cell++) n += isHollow(cell) ? 1 : 0;
        return n;
      case 2: return tape.length();
      case 3: return done.size();
      case 4: return bodies.size();
      case 5: return trace.size();
      default: return BAD;
    }
  }
}
