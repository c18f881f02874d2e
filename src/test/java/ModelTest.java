import java.math.BigInteger;
import java.util.HashMap;
import java.util.Map;
import java.util.Random;

/** Answers on drawn plains, texts and rows, against second ways to work them out. */
public final class ModelTest {
  public static void main(String[] args) {
    for (int seed = 0; seed < 60; seed++) {
      Random r = new Random(seed);
      DustCart x = drawnCart(r);
      days(x, r);
      lines(x, r);
      cheapest(x);
      soonest(x);
      round(x);
      lasts(x);
    }
    for (int odds = 0; odds <= 12; odds++) clean(odds);
    texts(new Random(7));
    faults(new Random(8));
    Due.end("ModelTest");
  }

  private static DustCart drawnCart(Random r) {
    DustCart x = new DustCart();
    int steep = 1 + r.nextInt(10);
    Due.bytes(x, 0, r.ints(36, 0, steep).toArray());
    x.heights(0, 0, 36);
    for (int n = r.nextInt(7); n > 0; n--) x.mend(r.nextInt(36), 1, 1);
    int light = 1 + r.nextInt(20);
    for (int day = 0; day < 60; day++) {
      x.mend(day, 2, r.nextInt(light + 1));
      x.mend(day, 3, r.nextInt(10));
    }
    x.mend(0, 4, 1 + r.nextInt(6));
    x.mend(0, 5, r.nextInt(13));
    if (r.nextBoolean()) Due.law(x, text(r, 0, 30));
    x.days(1 + r.nextInt(20));
    for (int n = r.nextInt(30); n > 0; n--) x.day(r.nextInt(6));
    return x;
  }

  private static void days(DustCart x, Random r) {
    int left = 60 - x.of(0, 20);
    int[] orders = r.ints(r.nextInt(61), -2, 9).toArray();
    Due.bytes(x, 1, orders);
    DayModel m = DayModel.of(x);
    int before = m.looks();
    int first = -2;
    for (int k = 0; k <= orders.length + 1; k++) {
      boolean may = k <= orders.length && k <= left;
      Due.is("run cell", x.run(1, k, 0), may ? m.cell : -5);
      Due.is("run store", x.run(1, k, 1), may ? m.store : -5);
      Due.is("run dust", x.run(1, k, 2), may ? m.dust : -5);
      Due.is("run looked", x.run(1, k, 3), may ? m.looks() - before : -5);
      if (k >= orders.length || k >= left) continue;
      boolean could = m.day(orders[k] < 0 || orders[k] > 5 ? 0 : orders[k]);
      if (!could && first < 0) first = k;
    }
    Due.is("first", x.first(1), first);
    byLaw(x, r);
    judge(x, r);
  }

  private static void byLaw(DustCart x, Random r) {
    String text = text(r, 0, 60);
    Due.is("law " + text, Due.law(x, text), 1);
    DayModel m = DayModel.of(x);
    int before = m.looks();
    int left = 60 - m.today;
    int good = 0;
    for (int k = 0; k <= left; k++) {
      Due.is("lawful " + text, x.lawful(k, 0), m.cell);
      Due.is("lawful " + text, x.lawful(k, 1), m.store);
      Due.is("lawful " + text, x.lawful(k, 2), m.dust);
      Due.is("lawful " + text, x.lawful(k, 3), m.looks() - before);
      if (k == left) break;
      int value = LawModel.value(text, m.names());
      if (m.day(value < 0 ? 0 : value % 6)) good++;
    }
    int today = x.image();
    Due.is("days", x.days(Math.max(1, left)), left == 0 ? -5 : good);
    Due.is("behind the days", Due.cart(x), Due.cart(60, m.cell, m.store, m.dust, m.looks()));
    Due.is("back", x.back(), today);
  }

  private static void judge(DustCart x, Random r) {
    DayModel m = DayModel.of(x);
    int[] told = new int[r.nextInt(61)];
    int unlike = r.nextInt(61);
    int due = -2;
    for (int k = 0; k < told.length; k++) {
      if (m.today < 60) {
        m.day(0);
        told[k] = m.store;
        if (k == unlike) {
          told[k] ^= 1 + r.nextInt(100);
          due = k;
        }
      }
    }
    Due.bytes(x, 2, told);
    Due.is("judge", x.judge(2), due);
  }

  private static void lines(DustCart x, Random r) {
    for (int n = 0; n < 8; n++) {
      int[] ways = r.ints(r.nextInt(7), n == 0 ? 0 : 1, 5).toArray();
      Due.bytes(x, 3, ways);
      boolean[] on = new boolean[36];
      boolean[] off = new boolean[36];
      for (int cell = 0; cell < 36; cell++) {
        int at = cell;
        for (int way : ways) at = at < 0 || way == 0 ? -1 : DayModel.there(at, way);
        if (at >= 0) {
          on[cell] = true;
          off[at] = true;
        }
      }
      Due.is("line begun", x.line(3, 0), bits(on));
      Due.is("line ended", x.line(3, 1), bits(off));
    }
  }

  private static long bits(boolean[] cells) {
    BigInteger all = BigInteger.ZERO;
    for (int i = 0; i < 36; i++) if (cells[i]) all = all.setBit(i);
    return all.longValueExact();
  }

  /** What all ways between all cells cost, by Floyd and Warshall. */
  private static int[][] costs(DayModel m) {
    int[][] d = new int[36][36];
    for (int a = 0; a < 36; a++) {
      for (int b = 0; b < 36; b++) d[a][b] = a == b ? 0 : 99999;
      for (int way = 1; way <= 4; way++) {
        if (DayModel.there(a, way) >= 0) d[a][DayModel.there(a, way)] = m.cost(a, DayModel.there(a, way));
      }
    }
    for (int c = 0; c < 36; c++) {
      for (int a = 0; a < 36; a++) {
        for (int b = 0; b < 36; b++) d[a][b] = Math.min(d[a][b], d[a][c] + d[c][b]);
      }
    }
    return d;
  }

  private static void cheapest(DustCart x) {
    DayModel m = DayModel.of(x);
    int[][] d = costs(m);
    for (int a = 0; a < 36; a++) {
      for (int b = 0; b < 36; b++) {
        Due.is("cheapest cost", x.cheapest(100 * a + b, 0), d[a][b]);
        int first = -2;
        for (int way = 4; way >= 1; way--) {
          int to = DayModel.there(a, way);
          if (a != b && to >= 0 && m.cost(a, to) + d[to][b] == d[a][b]) first = to;
        }
        Due.is("cheapest first", x.cheapest(100 * a + b, 1), first);
      }
    }
  }

  private static void soonest(DustCart x) {
    DayModel m = DayModel.of(x);
    Map<Integer, Integer> days = new HashMap<>();
    Map<Integer, Integer> most = new HashMap<>();
    boolean[] now = new boolean[36000];
    now[m.cell * 1000 + m.store * 10 + m.dust] = true;
    int today = m.today;
    for (int n = 0; n <= 20 && today + n <= 60; n++) {
      boolean[] next = new boolean[36000];
      for (int i = 0; i < 36000; i++) {
        if (!now[i]) continue;
        int cell = i / 1000;
        days.putIfAbsent(cell, n);
        if (days.get(cell) == n) most.merge(cell, i / 10 % 100, Math::max);
        for (int order = 0; order <= 4 && today + n < 60; order++) {
          m.cell = cell;
          m.store = i / 10 % 100;
          m.dust = i % 10;
          m.today = today + n;
          m.day(order);
          next[m.cell * 1000 + m.store * 10 + m.dust] = true;
        }
      }
      now = next;
    }
    for (int cell = 0; cell < 36; cell++) {
      Due.is("soonest days", x.soonest(cell, 0), days.getOrDefault(cell, -2));
      Due.is("soonest store", x.soonest(cell, 1), most.getOrDefault(cell, -2));
    }
  }

  private static void round(DustCart x) {
    DayModel m = DayModel.of(x);
    int[] stones = new int[36];
    int many = 0;
    for (int cell = 0; cell < 36; cell++) {
      if (m.stone[cell] == 1 && !m.looked[cell]) stones[many++] = cell;
    }
    if (many > 5) {
      Due.is("round", x.round(0), -5);
      return;
    }
    int[] best = {99999, -2};
    orders(costs(m), stones, many, m.cell, 0, -2, best);
    Due.is("round cost", x.round(0), best[0]);
    Due.is("round first", x.round(1), best[1]);
  }

  /** Tries all orders of the stones that are left (those from 0 on that are no -1). */
  private static void orders(int[][] d, int[] stones, int many, int at, int cost, int first, int[] best) {
    boolean none = true;
    for (int i = 0; i < many; i++) {
      int stone = stones[i];
      if (stone < 0) continue;
      none = false;
      stones[i] = -1;
      orders(d, stones, many, stone, cost + d[at][stone], first == -2 ? stone : first, best);
      stones[i] = stone;
    }
    if (!none) return;
    for (int north = 0; north < 6; north++) {
      int all = cost + d[at][north];
      if (all < best[0] || all == best[0] && first < best[1]) {
        best[0] = all;
        best[1] = first;
      }
    }
  }

  private static void lasts(DustCart x) {
    for (int less = 0; less <= 20; less++) {
      DayModel m = DayModel.of(x);
      int due = -2;
      while (m.today < 60 && due < 0) {
        m.day(0, Math.max(0, m.sun[m.today] - less), m.wind[m.today]);
        if (m.store == 0) due = m.today - 1;
      }
      Due.is("lasts", x.lasts(less), due);
    }
  }

  private static void clean(int odds) {
    DustCart x = new DustCart();
    x.mend(0, 5, odds);
    BigInteger twelve = BigInteger.valueOf(12);
    BigInteger calm = BigInteger.valueOf(12 - odds);
    for (int y = 0; y <= 8; y++) {
      fraction(x, y, 0, twelve.pow(y).subtract(calm.pow(y)), twelve.pow(y));
      // waits exactly n days: the n-th is the first windy one, or n is y and those ahead were calm
      BigInteger above = calm.pow(y).multiply(BigInteger.valueOf(y));
      for (int n = 1; n <= y; n++) {
        above = above.add(calm.pow(n - 1).multiply(BigInteger.valueOf(odds * n)).multiply(twelve.pow(y - n)));
      }
      fraction(x, y, 1, above, twelve.pow(y));
    }
  }

  private static void fraction(DustCart x, int y, int what, BigInteger above, BigInteger below) {
    BigInteger common = above.gcd(below);
    Due.is("clean above", x.clean(y, what, 0), above.divide(common).longValueExact());
    Due.is("clean below", x.clean(y, what, 1), below.divide(common).longValueExact());
  }

  /** A drawn text that keeps to the grammar; open: how many ( ! - are open, room: about how long. */
  private static String text(Random r, int open, int room) {
    StringBuilder t = new StringBuilder();
    int lines = 1 + r.nextInt(3);
    for (int n = 0; n < lines; n++) {
      if (n > 0) t.append(';');
      if (r.nextInt(3) > 0) t.append(expression(r, open, room / lines)).append('?');
      t.append(expression(r, open, room / lines / 2));
    }
    return t.length() <= 120 ? t.toString() : text(r, open, room / 2);
  }

  private static String expression(Random r, int open, int room) {
    String signs = "||&&<=>++--**//%%";
    StringBuilder t = new StringBuilder(operand(r, open, room));
    boolean compared = false;
    for (int n = r.nextInt(4); n > 0 && t.length() < room; n--) {
      char sign = signs.charAt(r.nextInt(signs.length()));
      if ("<=>".indexOf(sign) >= 0) {
        if (compared) continue;
        compared = true;
      }
      if (sign == '|' || sign == '&') compared = false;
      t.append(sign).append(operand(r, open, room - t.length()));
    }
    return t.toString();
  }

  private static String operand(Random r, int open, int room) {
    int kind = r.nextInt(8);
    if (open >= 6 || room < 4 || kind < 3) return "" + "suhdowc".charAt(r.nextInt(7));
    if (kind < 5) return "" + r.nextInt(r.nextBoolean() ? 10 : 10000);
    if (kind == 5) return "!" + operand(r, open + 1, room - 1);
    if (kind == 6) return "-" + operand(r, open + 1, room - 1);
    return "(" + expression(r, open + 1, room - 2) + ")";
  }

  private static void texts(Random r) {
    DustCart x = null;
    for (int n = 0; n < 3000; n++) {
      if (n % 100 == 0) x = drawnCart(r);
      String text = text(r, 0, 20 + r.nextInt(100));
      Due.is("law " + text, Due.law(x, text), 1);
      if (x.of(0, 20) == 60) continue;
      int value = LawModel.value(text, DayModel.of(x).names());
      Due.is("order by " + text, x.order(), value < 0 ? 0 : value % 6);
    }
  }

  private static void faults(Random r) {
    DustCart x = new DustCart();
    String letters = "suhdowc0123456789!-()|&<=>+*/%?;((!!--))x ";
    for (int n = 0; n < 4000; n++) {
      StringBuilder t = new StringBuilder(text(r, 0, 10 + r.nextInt(30)));
      for (int k = r.nextInt(3); k > 0 && t.length() > 0; k--) {
        int at = r.nextInt(t.length());
        char letter = letters.charAt(r.nextInt(letters.length()));
        switch (r.nextInt(4)) {
          case 0: t.setCharAt(at, letter); break;
          case 1: t.insert(at, letter); break;
          case 2: t.deleteCharAt(at); break;
          default: t.setLength(at); break;
        }
      }
      String text = t.toString();
      int fault = LawModel.fault(text);
      Due.is("law " + text, Due.law(x, text), fault < 0 ? 1 : -100 - fault);
    }
  }
}
