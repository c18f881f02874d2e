/** Promises 12 to 22: days in thought, ways, the odds, the lines. */
public final class ThoughtTest {
  private static final long ALL = (1L << 36) - 1;

  public static void main(String[] args) {
    run();
    first();
    rowsRefused();
    lawful();
    cheapest();
    soonest();
    round();
    roundRefused();
    lasts();
    clean();
    line();
    drawn();
    judge();
    Due.end("ThoughtTest");
  }

  private static void run() {
    DustCart x = new DustCart();
    x.mend(1, 1, 1);
    Due.bytes(x, 0, 2, 5, 6, -1, 3, 127);
    int[] cells = {0, 1, 1, 1, 1, 7, 7};
    int[] stores = {50, 51, 53, 57, 61, 61, 65};
    int[] dusts = {0, 1, 1, 1, 2, 2, 2};
    int[] looked = {0, 0, 1, 1, 1, 1, 1};
    for (int k = 0; k <= 6; k++) {
      Due.is("run cell " + k, x.run(0, k, 0), cells[k]);
      Due.is("run store " + k, x.run(0, k, 1), k < 6 ? stores[k] : 61 + 8 - 1 - 4);
      Due.is("run dust " + k, x.run(0, k, 2), dusts[k]);
      Due.is("run looked " + k, x.run(0, k, 3), looked[k]);
    }
    Due.is("run k", x.run(0, 7, 0), -5);
    Due.is("run k", x.run(0, 61, 0), -5);
    Due.is("run k", x.run(0, -1, 0), -1);
    Due.is("run what", x.run(0, 0, 4), -1);
    Due.is("run what", x.run(0, 0, -1), -1);
    Due.is("only in thought", Due.cart(x), Due.cart(0, 0, 50, 0, 0));
    x.day(2);
    x.day(5);
    Due.is("looked more", x.run(0, 6, 3), 0);
    x.days(53);
    Due.is("run days left", x.run(0, 5, 0), 8);
    Due.is("run days left", x.run(0, 6, 0), -5);
    x.days(5);
    Due.is("run at the end", x.run(0, 0, 0), 1);
    Due.is("run at the end", x.run(0, 1, 0), -5);
  }

  private static void first() {
    DustCart x = new DustCart();
    Due.bytes(x, 0, 0, 9, -3, 3, 3, 1, 4, 2);
    Due.is("first", x.first(0), 6);
    Due.bytes(x, 0, 3, 5);
    Due.is("first look", x.first(0), 1);
    x.mend(6, 1, 1);
    Due.is("first", x.first(0), -2);
    Due.bytes(x, 0, 3, 5, 5);
    Due.is("first second look", x.first(0), 2);
    x.days(58);
    Due.is("first of days left", x.first(0), -2);
    Due.bytes(x, 0, 3, 1, 1);
    Due.is("first of days left", x.first(0), -2);
    Due.bytes(x, 0, 3, 4, 1);
    Due.is("first of days left", x.first(0), 1);
    x.days(2);
    Due.is("first at the end", x.first(0), -2);
    DustCart y = new DustCart();
    for (int day = 0; day < 60; day++) y.mend(day, 2, 0);
    Due.bytes(y, 0, 2, 4, 2, 4, 2, 4, 2, 4, 2);
    Due.is("first without store", y.first(0), 7);
  }

  private static void rowsRefused() {
    DustCart x = new DustCart();
    x.row(1, 1, 3);
    x.row(2, 4, 3);
    x.body(1);
    x.keep(3, 0);
    for (int shelf : new int[] {-1, 6}) {
      Due.is("run shelf", x.run(shelf, 0, 0), -1);
      Due.is("first shelf", x.first(shelf), -1);
      Due.is("judge shelf", x.judge(shelf), -1);
      Due.is("line shelf", x.line(shelf, 0), Long.MIN_VALUE);
    }
    Due.is("run nothing", x.run(0, 0, 0), -11);
    Due.is("run nothing, far", x.run(0, 61, 0), -11);
    Due.is("first nothing", x.first(0), -11);
    Due.is("judge nothing", x.judge(0), -11);
    Due.is("line nothing", x.line(0, 0), Long.MIN_VALUE);
    for (int shelf = 1; shelf <= 3; shelf++) {
      Due.is("run no bytes", x.run(shelf, 0, 0), -12);
      Due.is("run bad ahead of no bytes", x.run(shelf, -1, 0), -1);
      Due.is("first no bytes", x.first(shelf), -12);
      Due.is("judge no bytes", x.judge(shelf), -12);
      Due.is("line no bytes", x.line(shelf, 0), Long.MIN_VALUE);
    }
    x.row(0, 0, 1);
    Due.is("line what", x.line(0, 2) - x.line(0, -1), 0);
    Due.is("line what", x.line(0, 2), Long.MIN_VALUE);
  }

  private static void lawful() {
    DustCart x = new DustCart();
    Due.is("lawful k", x.lawful(-1, 0), -1);
    Due.is("lawful k", x.lawful(61, 0), -1);
    Due.is("lawful what", x.lawful(0, 4), -1);
    Due.is("lawful what", x.lawful(0, -1), -1);
    x.mend(0, 1, 1);
    Due.is("lawful without a text", x.lawful(1, 3), 1);
    Due.is("lawful without a text", x.lawful(1, 1), 52);
    Due.law(x, "o?5;d<4?2;3");
    Due.is("lawful cell", x.lawful(60, 0), 33);
    Due.is("lawful cell", x.lawful(5, 0), 9);
    Due.is("lawful dust", x.lawful(4, 2), 2);
    Due.is("lawful looked", x.lawful(60, 3), 1);
    Due.is("lawful none", x.lawful(0, 1), 50);
    Due.is("only in thought", Due.cart(x), Due.cart(0, 0, 50, 0, 0));
    x.days(2);
    Due.is("lawful looked more", x.lawful(58, 3), 0);
    Due.is("lawful days left", x.lawful(58, 0), 32 + 1);
    Due.is("lawful days left", x.lawful(59, 0), -5);
    Due.is("lawful bad", x.lawful(61, 0), -1);
  }

  private static void cheapest() {
    DustCart x = new DustCart();
    Due.is("cheapest ties", x.cheapest(1421, 1), 15);
    Due.is("cheapest ties", x.cheapest(1421, 0), 6);
    Due.is("cheapest ties", x.cheapest(2114, 1), 15);
    Due.is("cheapest ties", x.cheapest(1419, 1), 20);
    Due.is("cheapest ties", x.cheapest(1407, 1), 8);
    x.mend(15, 0, 1);
    Due.is("cheapest round a hill", x.cheapest(1421, 1), 20);
    Due.is("cheapest over a hill", x.cheapest(1415, 0), 5);
    Due.is("cheapest over a hill", x.cheapest(1415, 1), 15);
    x.mend(15, 0, 9);
    Due.is("cheapest down", x.cheapest(1514, 0), 3);
    Due.is("cheapest round", x.cheapest(1416, 0), 12);
    Due.is("cheapest round", x.cheapest(1416, 1), 8);
    x.mend(0, 4, 1);
    Due.is("cheapest by one wheel", x.cheapest(1416, 0), 32);
    Due.is("cheapest to itself", x.cheapest(1515, 0), 0);
    Due.is("cheapest to itself", x.cheapest(1515, 1), -2);
    for (int ab : new int[] {-1, -101, 36, 99, 136, 3600, 3536, 10000, Integer.MIN_VALUE, Integer.MAX_VALUE}) {
      Due.is("cheapest " + ab, x.cheapest(ab, 0), -1);
      Due.is("cheapest " + ab, x.cheapest(ab, 1), -1);
    }
    Due.is("cheapest what", x.cheapest(1, 2), -1);
    Due.is("cheapest what", x.cheapest(1, -1), -1);
  }

  private static void soonest() {
    DustCart x = new DustCart();
    Due.is("soonest here", x.soonest(0, 0), 0);
    Due.is("soonest here", x.soonest(0, 1), 50);
    Due.is("soonest", x.soonest(7, 0), 2);
    Due.is("soonest", x.soonest(7, 1), 52);
    Due.is("soonest cell", x.soonest(36, 0), -1);
    Due.is("soonest cell", x.soonest(-1, 0), -1);
    Due.is("soonest what", x.soonest(0, 2), -1);
    Due.is("soonest what", x.soonest(0, -1), -1);
    // a wall for which the store must be waited for
    for (int day = 0; day < 60; day++) x.mend(day, 2, day < 12 ? 0 : 20);
    for (int cell = 6; cell < 12; cell++) x.mend(cell, 0, 9);
    for (int cell = 0; cell < 6; cell++) x.mend(cell, 0, 1);
    Due.is("soonest over a wall", x.soonest(12, 0), 2);
    Due.is("soonest over a wall", x.soonest(12, 1), 50 - 19 - 4 - 3 - 4);
    x.days(8);
    Due.is("store", x.of(0, 22), 18);
    Due.is("soonest behind waiting", x.soonest(6, 0), 7);
    Due.is("soonest behind waiting", x.soonest(6, 1), 25);
    for (int day = 8; day < 60; day++) x.mend(day, 2, 0);
    Due.is("soonest never", x.soonest(6, 0), -2);
    Due.is("soonest never", x.soonest(6, 1), -2);
    DustCart y = new DustCart();
    y.days(58);
    Due.is("soonest days left", y.soonest(2, 0), 2);
    Due.is("soonest days left", y.soonest(3, 0), -2);
    y.days(2);
    Due.is("soonest at the end", y.soonest(0, 0), 0);
    Due.is("soonest at the end", y.soonest(0, 1), 99);
    Due.is("soonest at the end", y.soonest(1, 0), -2);
  }

  private static void round() {
    DustCart x = new DustCart();
    Due.is("round without stones", x.round(0), 0);
    Due.is("round without stones", x.round(1), -2);
    x.day(3);
    Due.is("round to the north side", x.round(0), 3);
    x.mend(8, 1, 1);
    Due.is("round by one", x.round(0), 9);
    Due.is("round by one", x.round(1), 8);
    x.mend(18, 1, 1);
    Due.is("round by two", x.round(0), 6 + 12 + 3);
    Due.is("round by two", x.round(1), 18);
    DustCart y = new DustCart();
    y.mend(12, 1, 1);
    y.mend(2, 1, 1);
    Due.is("round of ties", y.round(0), 18);
    Due.is("round the second is dearer", y.round(1), 12);
    DustCart z = new DustCart();
    z.mend(6, 1, 1);
    z.mend(1, 1, 1);
    z.mend(7, 1, 1);
    Due.is("round", z.round(0), 3 + 3 + 3);
    Due.is("round first", z.round(1), 6);
    z.mend(0, 1, 1);
    Due.is("round from a stone", z.round(0), 9);
    Due.is("round from a stone", z.round(1), 0);
    z.day(5);
    Due.is("round without one looked at", z.round(1), 6);
  }

  private static void roundRefused() {
    DustCart x = new DustCart();
    for (int cell = 30; cell < 35; cell++) x.mend(cell, 1, 1);
    Due.is("round by five", x.round(0), 15 + 12 + 15);
    Due.is("round by five", x.round(1), 30);
    x.mend(35, 1, 1);
    Due.is("round by six", x.round(0), -5);
    Due.is("round by six", x.round(1), -5);
    Due.is("round what", x.round(2), -1);
    Due.is("round what", x.round(-1), -1);
  }

  private static void lasts() {
    DustCart x = new DustCart();
    Due.is("lasts x", x.lasts(-1), -1);
    Due.is("lasts x", x.lasts(21), -1);
    Due.is("lasts without sun", x.lasts(8), 12);
    Due.is("lasts with less than no sun", x.lasts(20), 12);
    Due.is("lasts", x.lasts(0), -2);
    x.mend(1, 0, 1);
    x.mend(6, 0, 1);
    Due.is("lasts in a hollow", x.lasts(20), 24);
    x.mend(1, 0, 0);
    for (int day = 0; day < 60; day++) x.mend(day, 2, 0);
    x.mend(0, 2, 20);
    Due.is("lasts by a sun less", x.lasts(18), 12);
    Due.is("lasts by a sun less", x.lasts(4), 16);
    x.days(20);
    Due.is("lasts from no store", x.lasts(0), 20);
    x.mend(20, 2, 9);
    Due.is("lasts from no store on", x.lasts(0), 21);
    x.days(40);
    Due.is("lasts at the end", x.lasts(0), -2);
  }

  private static void clean() {
    DustCart x = new DustCart();
    long[][] odds2 = {{0, 1, 0, 1}, {1, 6, 1, 1}, {11, 36, 11, 6}, {91, 216, 91, 36}};
    for (int y = 0; y < 4; y++) cleanIs(x, y, odds2[y]);
    x.mend(0, 5, 0);
    cleanIs(x, 0, new long[] {0, 1, 0, 1});
    cleanIs(x, 8, new long[] {0, 1, 8, 1});
    x.mend(0, 5, 12);
    cleanIs(x, 0, new long[] {0, 1, 0, 1});
    cleanIs(x, 8, new long[] {1, 1, 1, 1});
    x.mend(0, 5, 6);
    cleanIs(x, 3, new long[] {7, 8, 7, 4});
    x.mend(0, 5, 5);
    cleanIs(x, 2, new long[] {95, 144, 19, 12});
    x.mend(0, 5, 1);
    Due.is("clean below", x.clean(8, 0, 1), 429981696);
    Due.is("clean above", x.clean(8, 0, 0), 429981696 - 214358881);
    for (int bad : new int[] {-1, 9, 100}) Due.is("clean y", x.clean(bad, 0, 0), Long.MIN_VALUE);
    for (int bad : new int[] {-1, 2}) {
      Due.is("clean what", x.clean(0, bad, 0), Long.MIN_VALUE);
      Due.is("clean part", x.clean(0, 0, bad), Long.MIN_VALUE);
    }
  }

  private static void cleanIs(DustCart x, int y, long[] due) {
    for (int n = 0; n < 4; n++) Due.is("clean " + y + " " + n, x.clean(y, n / 2, n % 2), due[n]);
  }

  private static void line() {
    DustCart x = new DustCart();
    x.row(0, 0, 0);
    Due.is("line of none", x.line(0, 0), ALL);
    Due.is("line of none", x.line(0, 1), ALL);
    Due.bytes(x, 0, 1);
    Due.is("line north", x.line(0, 0), ALL & ~63L);
    Due.is("line north", x.line(0, 1), ALL >>> 6);
    Due.bytes(x, 0, 2, 2, 2, 2, 2);
    Due.is("line east", x.line(0, 0), 0b000001000001000001000001000001000001L);
    Due.is("line east", x.line(0, 1), 0b100000100000100000100000100000100000L);
    Due.bytes(x, 0, 2, 2, 2, 2, 2, 2);
    Due.is("line too long", x.line(0, 0), 0);
    Due.is("line too long", x.line(0, 1), 0);
    Due.bytes(x, 0, 3, 3, 3, 3, 3, 4, 4, 4, 4, 4);
    Due.is("line to a corner", x.line(0, 0), 1L << 5);
    Due.is("line to a corner", x.line(0, 1), 1L << 30);
    for (int none : new int[] {0, 5, -1, 127, -128}) {
      Due.bytes(x, 0, 1, none);
      Due.is("line of " + none, x.line(0, 0), 0);
      Due.is("line of " + none, x.line(0, 1), 0);
    }
    for (int day = 0; day < 60; day++) x.mend(day, 2, 0);
    x.days(20);
    Due.bytes(x, 0, 4);
    Due.is("line without store", x.line(0, 1), ALL & ~0b100000100000100000100000100000100000L);
  }

  private static void drawn() {
    DustCart x = new DustCart();
    Due.is("drawn n", x.drawn(0, 0, 0), -1);
    Due.is("drawn n", x.drawn(0, 31, 0), -1);
    Due.is("drawn what", x.drawn(0, 1, 2), -1);
    Due.is("drawn what", x.drawn(0, 1, -1), -1);
    for (int day = 0; day < 60; day++) x.mend(day, 2, day < 40 ? 6 : 4);
    for (int seed : new int[] {0, 1, -1, 12345, Integer.MIN_VALUE, Integer.MAX_VALUE}) {
      for (int odds = 0; odds <= 12; odds += 3) {
        x.mend(0, 5, odds);
        drawnIs(x, seed, 1);
        drawnIs(x, seed, 30);
      }
    }
    x.mend(0, 5, 12);
    Due.is("drawn ever clean", x.drawn(5, 7, 1), 7 * 99);
    x.mend(0, 5, 0);
    Due.is("drawn ever dusty", x.drawn(5, 7, 0), 0 + drawnDark(x, 5, 7));
    x.days(60);
    Due.is("drawn at the end", x.drawn(1, 30, 1), 30 * x.of(0, 22));
    Due.is("drawn at the end", x.drawn(1, 30, 0), 0);
  }

  private static void drawnIs(DustCart x, int seed, int n) {
    Due.is("drawn " + seed, x.drawn(seed, n, 0), drawnDark(x, seed, n));
    int z = seed;
    int sum = 0;
    for (int time = 0; time < n; time++) {
      DayModel m = DayModel.of(x);
      while (m.today < 60) {
        z = z * 1103515245 + 12345;
        m.day(0, m.sun[m.today], (z >>> 8) % 12 < x.of(0, 5) ? 9 : 0);
      }
      sum += m.store;
    }
    Due.is("drawn sum " + seed, x.drawn(seed, n, 1), sum);
  }

  private static int drawnDark(DustCart x, int seed, int n) {
    int z = seed;
    int dark = 0;
    for (int time = 0; time < n; time++) {
      DayModel m = DayModel.of(x);
      boolean was = false;
      while (m.today < 60) {
        z = z * 1103515245 + 12345;
        m.day(0, m.sun[m.today], (z >>> 8) % 12 < x.of(0, 5) ? 9 : 0);
        was |= m.store == 0;
      }
      if (was) dark++;
    }
    return dark;
  }

  private static void judge() {
    DustCart x = new DustCart();
    Due.bytes(x, 0, 54, 58, 62, 66, 69);
    Due.is("judge", x.judge(0), -2);
    Due.bytes(x, 0, 54, 58, 62, 66, 70);
    Due.is("judge the last", x.judge(0), 4);
    Due.bytes(x, 0, 54, 58, 0, 66, 70);
    Due.is("judge", x.judge(0), 2);
    Due.bytes(x, 0, -1);
    Due.is("judge", x.judge(0), 0);
    x.row(0, 0, 0);
    Due.is("judge none", x.judge(0), -2);
    Due.bytes(x, 0, 58, 62);
    x.day(0);
    Due.is("judge from today", x.judge(0), -2);
    x.days(57);
    Due.bytes(x, 0, 99, 99, 7);
    Due.is("judge what is behind day 59", x.judge(0), -2);
    Due.bytes(x, 0, 99, 98, 7);
    Due.is("judge day 59", x.judge(0), 1);
    x.days(2);
    Due.is("judge at the end", x.judge(0), -2);
  }
}
