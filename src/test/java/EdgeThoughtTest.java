/** Promises 12 to 22: each sentence that names a boundary, one test each. */
public final class EdgeThoughtTest {
  private static final int MIN = Integer.MIN_VALUE, MAX = Integer.MAX_VALUE;
  private static final long NONE = Long.MIN_VALUE, ALL = (1L << 36) - 1;

  public static void main(String[] args) {
    runMany();
    runOrders();
    runRefused();
    firstDays();
    firstRefused();
    lawfulMany();
    cheapestCells();
    cheapestThere();
    cheapestTies();
    soonestDays();
    soonestRefused();
    roundStones();
    roundTies();
    lastsDays();
    lastsRefused();
    cleanDays();
    cleanRefused();
    lineBytes();
    linePlain();
    lineRefused();
    drawnTimes();
    drawnDays();
    drawnRefused();
    judgeDays();
    judgeRefused();
    Due.end("EdgeThoughtTest");
  }

  /** A cart behind so many days, all of which it stayed. */
  private static DustCart behind(int days) {
    DustCart x = new DustCart();
    for (int n = 0; n < days; n++) x.day(0);
    return x;
  }

  private static void runMany() {
    Due.sentence(12, "k no more than it has: else STATE");
    DustCart x = new DustCart();
    for (int n : new int[] {0, 1, 5, 60}) {
      x.row(0, 0, n);
      Due.is("none of " + n, x.run(0, 0, 1), 50);
      Due.is("all of " + n, x.run(0, n, 1), x.lawful(n, 1));
      Due.is("one more than " + n, x.run(0, n + 1, 1), -5);
      Due.is("far more than " + n, x.run(0, MAX, 1), -5);
    }
    Due.sentence(12, "k no more than DAYS are left: else STATE");
    for (int days : new int[] {0, 1, 58, 59, 60}) {
      DustCart y = behind(days);
      y.row(0, 0, 60);
      Due.is("as many as are left behind " + days, y.run(0, 60 - days, 1), y.lawful(60 - days, 1));
      Due.is("one more behind " + days, y.run(0, 61 - days, 1), -5);
      Due.is("none behind " + days, y.run(0, 0, 1), y.of(0, 22));
    }
    Due.sentence(12, "what 0 CELL, 1 STORE, 2 DUST, 3 how many LOOKED AT more; BAD");
    DustCart z = new DustCart();
    z.mend(0, 1, 1);
    z.mend(1, 1, 1);
    z.day(5);
    Due.bytes(z, 0, 5, 2, 5, 5);
    Due.is("cell", z.run(0, 4, 0), 1);
    Due.is("store", z.run(0, 4, 1), 52 + 4 + 1 + 2 + 3);
    Due.is("dust", z.run(0, 4, 2), 2);
    Due.is("one that it has not", z.run(0, 4, 3), 1);
    for (int what : new int[] {-1, 4, MIN, MAX}) Due.is("what " + what, z.run(0, 4, what), -1);
  }

  private static void runOrders() {
    Due.sentence(12, "others than 0 .. 5 are 0");
    for (int order : new int[] {-128, -5, -2, -1, 6, 7, 127}) {
      DustCart x = new DustCart();
      x.mend(0, 1, 1);
      Due.bytes(x, 0, order, order);
      Due.is("cell by " + order, x.run(0, 2, 0), 0);
      Due.is("store by " + order, x.run(0, 2, 1), 58);
      Due.is("looked by " + order, x.run(0, 2, 3), 0);
      Due.is("first by " + order, x.first(0), -2);
    }
    Due.sentence(12, "(So behind the last DAY of a row.)");
    DustCart x = behind(59);
    x.mend(59, 3, 9);
    Due.bytes(x, 0, 0);
    Due.is("dust behind day 59", x.run(0, 1, 2), 0);
    DustCart y = behind(57);
    y.mend(57, 2, 20);
    Due.bytes(y, 0, 0, 0, 0);
    Due.is("store behind day 59", y.run(0, 3, 1), y.lawful(3, 1));
    Due.sentence(12, "In thought: THE CART stays as it is");
    DustCart z = new DustCart();
    z.mend(0, 1, 1);
    Due.bytes(z, 0, 5, 2);
    z.run(0, 2, 0);
    z.first(0);
    Due.is("cart", Due.cart(z), Due.cart(0, 0, 50, 0, 0));
    Due.is("not looked at", z.of(0, 11), 0);
    Due.is("no day was", z.led(0, 0), -1);
  }

  /** On shelves 1 to 4 rows of the other sorts, on shelf 5 a body; shelf 0 holds nothing. */
  private static DustCart shelved() {
    DustCart x = new DustCart();
    for (int sort = 1; sort <= 4; sort++) x.row(sort, sort, 3);
    x.body(0);
    x.keep(5, 0);
    return x;
  }

  private static void runRefused() {
    Due.sentence(12, "BAD: no such SHELF, k below 0");
    DustCart x = shelved();
    for (int shelf : new int[] {-1, 6, MIN, MAX}) Due.is("shelf " + shelf, x.run(shelf, 0, 0), -1);
    for (int k : new int[] {-1, -60, MIN}) Due.is("k " + k, x.run(0, k, 0), -1);
    Due.sentence(12, "-11 nothing is there");
    Due.is("run of nothing", x.run(0, 0, 0), -11);
    Due.is("ahead of STATE", x.run(0, 61, 0), -11);
    Due.is("behind BAD", x.run(0, 0, 4), -1);
    Due.sentence(12, "-12 (no ROW of bytes)");
    for (int shelf = 1; shelf <= 5; shelf++) {
      Due.is("run of shelf " + shelf, x.run(shelf, 0, 0), -12);
      Due.is("ahead of STATE", x.run(shelf, 61, 0), -12);
      Due.is("behind BAD", x.run(shelf, -1, 0), -1);
    }
  }

  private static void firstDays() {
    Due.sentence(13, "NOT: none that could not be");
    DustCart x = new DustCart();
    x.row(0, 0, 0);
    Due.is("a row of none", x.first(0), -2);
    x.row(0, 0, 60);
    Due.is("a row of 60", x.first(0), -2);
    Due.sentence(13, "the first that could not be");
    x.put(0, 59, 5);
    Due.is("the last alone", x.first(0), 59);
    x.put(0, 30, 1);
    Due.is("an earlier one", x.first(0), 30);
    x.put(0, 0, 4);
    Due.is("the very first", x.first(0), 0);
    Due.sentence(13, "(0 always can): also without STORE");
    DustCart dark = new DustCart();
    for (int day = 0; day < 60; day++) dark.mend(day, 2, 0);
    dark.row(0, 0, 60);
    Due.is("first", dark.first(0), -2);
    Due.sentence(13, "from TODAY, by what its DAYS bring");
    DustCart lit = behind(5);
    lit.mend(1, 0, 9);
    for (int day = 0; day < 60; day++) lit.mend(day, 2, 0);
    Due.store(lit, 20);
    lit.mend(lit.of(0, 20) + 1, 2, 20);
    Due.bytes(lit, 0, 0, 0, 2, 4, 2);
    Due.is("up behind a day of light, down, not up again", lit.first(0), 4);
    Due.is("the same once more", lit.first(0), 4);
    Due.sentence(13, "(of DAYS that are left)");
    DustCart y = behind(57);
    Due.bytes(y, 0, 0, 0, 0, 1);
    Due.is("behind day 59", y.first(0), -2);
    Due.bytes(y, 0, 0, 0, 1, 1);
    Due.is("on day 59", y.first(0), 2);
    DustCart z = behind(60);
    Due.bytes(z, 0, 1);
    Due.is("no day is left", z.first(0), -2);
  }

  private static void firstRefused() {
    Due.sentence(13, "BAD, -11, -12");
    DustCart x = shelved();
    for (int shelf : new int[] {-1, 6, MIN, MAX}) Due.is("shelf " + shelf, x.first(shelf), -1);
    Due.is("nothing", x.first(0), -11);
    for (int shelf = 1; shelf <= 5; shelf++) Due.is("shelf " + shelf, x.first(shelf), -12);
  }

  private static void lawfulMany() {
    Due.sentence(14, "k DAYS (0 .. 60); BAD");
    DustCart x = new DustCart();
    for (int k : new int[] {-1, 61, MIN, MAX}) Due.is("lawful " + k, x.lawful(k, 0), -1);
    Due.is("none", x.lawful(0, 1), 50);
    Due.is("one", x.lawful(1, 1), 54);
    Due.is("dust behind 60", x.lawful(60, 2), 9);
    Due.sentence(14, "no more than are left: STATE");
    for (int days : new int[] {1, 30, 59, 60}) {
      DustCart y = behind(days);
      Due.is("as many as are left", y.lawful(60 - days, 0), 0);
      Due.is("one more", y.lawful(61 - days, 0), -5);
      Due.is("BAD ahead of STATE", y.lawful(61, 0), -1);
      Due.is("BAD ahead of STATE", y.lawful(60, 4), -1);
    }
    Due.sentence(14, "the same: what 0 .. 3; BAD");
    for (int what : new int[] {-1, 4, MIN, MAX}) Due.is("what " + what, x.lawful(0, what), -1);
    Due.sentence(14, "In thought: d, w, o, s, c, h go with its DAYS");
    DustCart z = new DustCart();
    z.mend(1, 1, 1);
    z.mend(1, 0, 2);
    z.mend(3, 3, 9);
    Due.law(z, "o?5;d=0?2;w=9&h=2&c=1?3;0");
    Due.is("looked at", z.lawful(3, 3), 1);
    Due.is("cell behind day 2", z.lawful(3, 0), 1);
    Due.is("cell behind day 3", z.lawful(4, 0), 7);
    Due.is("cart", Due.cart(z), Due.cart(0, 0, 50, 0, 0));
    Due.is("not looked at in deed", z.of(1, 11), 0);
  }

  private static void cheapestCells() {
    Due.sentence(15, "100 times the one CELL and the other; BAD");
    DustCart x = new DustCart();
    for (int ab : new int[] {-1, -100, 36, 99, 136, 3536, 3599, 3600, 3635, 9999, 10000, MIN, MAX}) {
      Due.is("cheapest " + ab, x.cheapest(ab, 0), -1);
      Due.is("cheapest " + ab, x.cheapest(ab, 1), -1);
    }
    Due.is("from the first to the last", x.cheapest(35, 0), 30);
    Due.is("from the last to the first", x.cheapest(3500, 0), 30);
    Due.is("first cell", x.cheapest(3500, 1), 29);
    Due.sentence(15, "the first CELL: CELL 0 as any other");
    Due.is("from 1", x.cheapest(100, 1), 0);
    Due.is("from 6", x.cheapest(600, 1), 0);
    Due.is("from 7 by 1, north", x.cheapest(700, 1), 1);
    Due.sentence(15, "what 0, 1; BAD");
    for (int what : new int[] {-1, 2, MIN, MAX}) Due.is("what " + what, x.cheapest(35, what), -1);
    Due.sentence(15, "the end of a row is no neighbour of the next one's begin");
    Due.is("from 5 to 6", x.cheapest(506, 0), 18);
    Due.is("from 6 to 5", x.cheapest(605, 0), 18);
    Due.is("first cell", x.cheapest(506, 1), 11);
    Due.is("from the last row to the first", x.cheapest(3300, 1), 27);
    Due.sentence(15, "the most that a way can cost");
    x.mend(0, 4, 1);
    for (int cell = 0; cell < 36; cell++) x.mend(cell, 0, (cell / 6 + cell % 6) % 2 * 9);
    Due.is("over hill and dale", x.cheapest(35, 0), 5 * (8 + 18) + 5 * 8);
    Due.sentence(15, "(whatever STORE)");
    DustCart y = behind(0);
    for (int day = 0; day < 60; day++) y.mend(day, 2, 0);
    y.days(60);
    Due.is("store", y.of(0, 22), 0);
    Due.is("without store, behind day 59", y.cheapest(35, 0), 30);
  }

  private static void cheapestThere() {
    Due.sentence(15, "the first CELL (1; NOT: it is there)");
    DustCart x = new DustCart();
    for (int cell = 0; cell < 36; cell++) {
      Due.is("cost at " + cell, x.cheapest(101 * cell, 0), 0);
      Due.is("first at " + cell, x.cheapest(101 * cell, 1), -2);
    }
  }

  private static void cheapestTies() {
    Due.sentence(15, "of like ones by north, east, south, west");
    DustCart x = new DustCart();
    int[] to = {8, 7, 9, 19, 21, 14, 13, 15, 20, 2, 12, 17, 32};
    int[] due = {8, 8, 8, 20, 15, -2, 13, 15, 20, 8, 13, 15, 20};
    for (int i = 0; i < to.length; i++) Due.is("from 14 to " + to[i], x.cheapest(1400 + to[i], 1), due[i]);
    Due.sentence(15, "of all such ways: the cheaper first cell ahead of the order of ways");
    x.mend(8, 0, 1);
    Due.is("north is dearer", x.cheapest(1407, 1), 13);
    Due.is("north is dearer", x.cheapest(1409, 1), 15);
    // all four first cells alike: round the goal's far side is as dear as over the hill
    DustCart y = new DustCart();
    y.mend(15, 0, 3);
    Due.is("straight over costs as much as round", y.cheapest(1416, 0), 12);
    Due.is("north comes ahead of east", y.cheapest(1416, 1), 8);
    y.mend(15, 0, 2);
    Due.is("straight over is cheaper", y.cheapest(1416, 1), 15);
  }

  /** On day 13, without store, with so many dark days ahead of the first of light. */
  private static DustCart waits(int dark) {
    DustCart x = new DustCart();
    for (int day = 0; day < 60; day++) x.mend(day, 2, day < 13 + dark ? 0 : 20);
    for (int n = 0; n < 13; n++) x.day(0);
    Due.is("no store", x.of(0, 22), 0);
    return x;
  }

  private static void soonestDays() {
    Due.sentence(16, "the fewest DAYS (0 .. 20)");
    DustCart here = new DustCart();
    Due.is("here", here.soonest(0, 0), 0);
    Due.is("store here", here.soonest(0, 1), 50);
    for (int dark = 17; dark <= 20; dark++) {
      DustCart x = waits(dark);
      // dark days, one of light, one of a move
      int due = dark + 2 <= 20 ? dark + 2 : -2;
      Due.is("behind " + dark + " dark days", x.soonest(1, 0), due);
      Due.is("store", x.soonest(1, 1), due < 0 ? -2 : 20 - 4 - 4 - 3 + 20 - 4 - 4);
    }
    Due.sentence(16, "no more than are left");
    for (int days = 57; days <= 60; days++) {
      DustCart x = behind(days);
      int left = 60 - days;
      for (int far = 0; far <= 4; far++) Due.is("far " + far, x.soonest(far, 0), far <= left ? far : -2);
      Due.is("most store here", x.soonest(0, 1), x.of(0, 22));
    }
    Due.sentence(16, "the most STORE then");
    DustCart x = new DustCart();
    x.mend(1, 0, 2);
    Due.is("two days", x.soonest(7, 0), 2);
    Due.is("not over the hill", x.soonest(7, 1), 50 + 2 * (8 - 3 - 4));
    x.mend(6, 0, 1);
    Due.is("over the lower one", x.soonest(7, 1), 50 + 2 * (8 - 3 - 4) - 2);
    Due.sentence(16, "(STORE, DUST as they go): a store of 99 at most, light by the dust");
    DustCart y = new DustCart();
    Due.store(y, 99);
    y.mend(y.of(0, 20), 2, 20);
    Due.is("store", y.soonest(1, 1), 99);
    y.mend(y.of(0, 20), 2, 0);
    Due.is("store", y.soonest(1, 1), 92);
    Due.sentence(16, "the most STORE then: 0, if no more is left");
    DustCart w = new DustCart();
    for (int day = 0; day < 60; day++) w.mend(day, 2, 0);
    Due.store(w, 6);
    Due.is("a move, then the night takes all", w.soonest(1, 0), 1);
    Due.is("store", w.soonest(1, 1), 0);
    Due.is("no farther", w.soonest(2, 0), -2);
    Due.sentence(16, "by moves: each way, and to CELL 0");
    DustCart v = new DustCart();
    Due.is("to cell 7", v.day(2) + v.day(3), 2);
    int[] cells = {1, 8, 13, 6};
    for (int cell : cells) Due.is("to " + cell, v.soonest(cell, 0), 1);
    Due.is("to 0", v.soonest(0, 0), 2);
    Due.sentence(16, "NOT: it can not be there in time");
    DustCart z = new DustCart();
    for (int day = 0; day < 60; day++) z.mend(day, 2, 0);
    z.mend(0, 4, 1);
    Due.is("as far as its store goes", z.soonest(4, 0), 4);
    Due.is("store", z.soonest(4, 1), 50 - 4 * 12);
    Due.is("one farther", z.soonest(5, 0), -2);
    Due.is("one farther", z.soonest(5, 1), -2);
  }

  private static void soonestRefused() {
    Due.sentence(16, "a CELL; what 0, 1; BAD");
    DustCart x = new DustCart();
    for (int cell : new int[] {-1, 36, MIN, MAX}) {
      Due.is("cell " + cell, x.soonest(cell, 0), -1);
      Due.is("cell " + cell, x.soonest(cell, 1), -1);
    }
    for (int what : new int[] {-1, 2, MIN, MAX}) Due.is("what " + what, x.soonest(0, what), -1);
    Due.is("the last cell", x.soonest(35, 0), 10);
    Due.sentence(16, "BAD ahead of NOT");
    Due.is("what, behind day 59", behind(60).soonest(35, 2), -1);
  }

  private static void roundStones() {
    Due.sentence(17, "STONES not LOOKED AT (5 at most, else STATE)");
    DustCart x = new DustCart();
    for (int n = 1; n <= 5; n++) {
      x.mend(n, 1, 1);
      Due.is("round by " + n, x.round(0), 3 * n);
      Due.is("first of " + n, x.round(1), 1);
    }
    x.mend(0, 1, 1);
    Due.is("round by 6", x.round(0), -5);
    Due.is("first of 6", x.round(1), -5);
    x.day(5);
    Due.is("5 and one looked at", x.round(0), 15);
    for (int cell = 6; cell < 36; cell++) x.mend(cell, 1, 1);
    Due.is("round by 35", x.round(0), -5);
    Due.sentence(17, "BAD ahead of STATE");
    for (int what : new int[] {-1, 2, MIN, MAX}) Due.is("what " + what, x.round(what), -1);
    Due.sentence(17, "NOT: there are none");
    DustCart y = new DustCart();
    Due.is("cost of none, on row 0", y.round(0), 0);
    Due.is("first of none", y.round(1), -2);
    y.mend(0, 1, 1);
    y.day(5);
    Due.is("all looked at", y.round(1), -2);
    y.day(3);
    y.day(3);
    Due.is("cost of none, to row 0", y.round(0), 6);
    Due.is("first of none", y.round(1), -2);
    Due.sentence(17, "from its CELL: a STONE under it costs nothing, and comes first");
    DustCart z = new DustCart();
    z.mend(0, 1, 1);
    Due.is("cost", z.round(0), 0);
    Due.is("first", z.round(1), 0);
    Due.sentence(17, "then to any CELL of row 0: the cheapest one");
    z.mend(35, 1, 1);
    Due.is("cost", z.round(0), 45);
    for (int cell = 0; cell < 5; cell++) z.mend(cell, 0, 9);
    Due.is("cost to cell 5", z.round(0), 45);
    z.mend(5, 0, 9);
    z.mend(4, 0, 0);
    Due.is("cost to cell 4", z.round(0), 48);
  }

  private static void roundTies() {
    Due.sentence(17, "the first STONE's CELL (of like ones the least)");
    DustCart x = new DustCart();
    Due.is("to cell 2", x.day(2) + x.day(2), 2);
    x.mend(3, 1, 1);
    x.mend(1, 1, 1);
    Due.is("cost of both", x.round(0), 9);
    Due.is("the least", x.round(1), 1);
    x.mend(1, 0, 1);
    Due.is("cost of both, one up", x.round(0), 11);
    Due.is("the least", x.round(1), 1);
    Due.sentence(17, "the cheaper ahead of the least");
    x.mend(2, 0, 1);
    x.mend(1, 0, 0);
    x.mend(3, 0, 2);
    // by 1 and 3: 3, 5 and 5; by 3 and 1: 5, 3 and 3
    Due.is("cost", x.round(0), 11);
    Due.is("first", x.round(1), 3);
  }

  private static void lastsDays() {
    Due.sentence(18, "the first DAY behind which STORE is 0");
    DustCart x = new DustCart();
    Due.is("50 by 4 a day", x.lasts(20), 12);
    for (int store = 0; store <= 5; store++) {
      DustCart y = new DustCart();
      Due.store(y, store);
      Due.is("from store " + store, y.lasts(20), y.of(0, 20) + (store > 4 ? 1 : 0));
    }
    Due.sentence(18, "SUN being less by x (0 at least)");
    DustCart z = new DustCart();
    for (int day = 0; day < 60; day++) z.mend(day, 2, 4);
    Due.is("by 4", z.lasts(4), 12);
    Due.is("by 5", z.lasts(5), 12);
    Due.is("by 20", z.lasts(20), 12);
    Due.sentence(18, "NOT: none till 59");
    Due.is("99 on day 34, which 25 nights take", behind(34).lasts(20), 58);
    Due.is("99 on day 35", behind(35).lasts(20), 59);
    Due.is("99 on day 36", behind(36).lasts(20), -2);
    Due.is("no day is left", behind(60).lasts(0), -2);
    DustCart empty = new DustCart();
    for (int day = 0; day < 60; day++) empty.mend(day, 2, 0);
    empty.days(60);
    Due.is("no day is left, store 0", empty.lasts(20), -2);
  }

  private static void lastsRefused() {
    Due.sentence(18, "x (0 .. 20); BAD");
    DustCart x = new DustCart();
    for (int less : new int[] {-1, 21, MIN, MAX}) Due.is("x " + less, x.lasts(less), -1);
    Due.is("x 0", x.lasts(0), -2);
    Due.is("x 20", x.lasts(20), 12);
  }

  private static void cleanDays() {
    Due.sentence(19, "y DAYS (0 .. 8): none");
    for (int odds : new int[] {0, 1, 2, 6, 12}) cleanIs(odds, 0, 0, 1, 0, 1);
    Due.sentence(19, "ODDS 0: never blown clean, all of them waited");
    for (int y = 1; y <= 8; y++) cleanIs(0, y, 0, 1, y, 1);
    Due.sentence(19, "ODDS 12: blown clean on the first");
    for (int y = 1; y <= 8; y++) cleanIs(12, y, 1, 1, 1, 1);
    Due.sentence(19, "fractions in lowest terms");
    cleanIs(6, 1, 1, 2, 1, 1);
    cleanIs(6, 2, 3, 4, 3, 2);
    cleanIs(6, 8, 255, 256, 255, 128);
    cleanIs(4, 2, 5, 9, 5, 3);
    cleanIs(11, 2, 143, 144, 13, 12);
    cleanIs(1, 1, 1, 12, 1, 1);
    Due.sentence(19, "the greatest: 12 by 8 times below the line");
    DustCart x = new DustCart();
    x.mend(0, 5, 1);
    Due.is("below", x.clean(8, 0, 1), 429981696L);
    Due.is("above", x.clean(8, 0, 0), 429981696L - 214358881L);
    Due.is("below of the mean", x.clean(8, 1, 1), 35831808L);
    Due.is("above of the mean", x.clean(8, 1, 0), 429981696L - 214358881L);
    Due.sentence(19, "by ODDS alone");
    DustCart y = new DustCart();
    for (int day = 0; day < 60; day++) y.mend(day, 3, 9);
    y.mend(1, 0, 1);
    y.mend(6, 0, 1);
    y.days(60);
    Due.is("behind day 59, in a hollow, in wind", y.clean(1, 0, 0) * 10 + y.clean(1, 0, 1), 16);
  }

  private static void cleanIs(int odds, int y, long... due) {
    DustCart x = new DustCart();
    x.mend(0, 5, odds);
    for (int n = 0; n < 4; n++) Due.is("odds " + odds + " clean " + y + " " + n, x.clean(y, n / 2, n % 2), due[n]);
  }

  private static void cleanRefused() {
    Due.sentence(19, "y (0 .. 8), what 0, 1, part 0, 1; Long.MIN_VALUE: BAD");
    DustCart x = new DustCart();
    for (int bad : new int[] {-1, 9, 12, MIN, MAX}) Due.is("y " + bad, x.clean(bad, 0, 0), NONE);
    for (int bad : new int[] {-1, 2, MIN, MAX}) {
      Due.is("what " + bad, x.clean(1, bad, 0), NONE);
      Due.is("part " + bad, x.clean(1, 0, bad), NONE);
    }
  }

  private static void lineBytes() {
    Due.sentence(20, "(a byte that is none of these: nowhere)");
    DustCart x = new DustCart();
    for (int none : new int[] {0, 5, 6, -1, -4, 127, -128}) {
      for (int at = 0; at < 3; at++) {
        Due.bytes(x, 0, 1, 3, 1);
        x.put(0, at, none);
        Due.is("begun by " + none, x.line(0, 0), 0);
        Due.is("ended by " + none, x.line(0, 1), 0);
      }
    }
    Due.sentence(20, "a line of no bytes: all of THE PLAIN");
    x.row(0, 0, 0);
    Due.is("begun", x.line(0, 0), ALL);
    Due.is("ended", x.line(0, 1), ALL);
    Due.sentence(20, "a line of 60 bytes");
    x.row(0, 0, 60);
    for (int i = 0; i < 60; i++) x.put(0, i, i % 2 == 0 ? 1 : 3);
    Due.is("begun", x.line(0, 0), ALL & ~63L);
    Due.is("ended", x.line(0, 1), ALL & ~63L);
    x.put(0, 59, 1);
    Due.is("begun", x.line(0, 0), ALL & ~4095L);
    Due.is("ended", x.line(0, 1), ALL >>> 12);
  }

  private static void linePlain() {
    Due.sentence(20, "stays on THE PLAIN: off it on each side");
    DustCart x = new DustCart();
    long east = 0;
    for (int row = 0; row < 6; row++) east |= 1L << (6 * row + 5);
    long west = east >>> 5;
    long[] begun = {ALL & ~63L, ALL & ~east, ALL >>> 6, ALL & ~west};
    long[] ended = {ALL >>> 6, ALL & ~west, ALL & ~63L, ALL & ~east};
    for (int way = 1; way <= 4; way++) {
      Due.bytes(x, 0, way);
      Due.is("begun by " + way, x.line(0, 0), begun[way - 1]);
      Due.is("ended by " + way, x.line(0, 1), ended[way - 1]);
    }
    Due.sentence(20, "off THE PLAIN between: it does not come back");
    Due.bytes(x, 0, 4, 2);
    Due.is("begun", x.line(0, 0), ALL & ~west);
    Due.is("ended", x.line(0, 1), ALL & ~west);
    Due.sentence(20, "as long as THE PLAIN, and one more");
    for (int way = 1; way <= 4; way++) {
      Due.bytes(x, 0, way, way, way, way, way);
      Due.is("begun by 5 of " + way, Long.bitCount(x.line(0, 0)), 6);
      Due.is("ended by 5 of " + way, Long.bitCount(x.line(0, 1)), 6);
      Due.bytes(x, 0, way, way, way, way, way, way);
      Due.is("begun by 6 of " + way, x.line(0, 0), 0);
      Due.is("ended by 6 of " + way, x.line(0, 1), 0);
    }
    Due.sentence(20, "CELLS (bits, a long): CELL 35");
    Due.bytes(x, 0, 2, 2, 2, 2, 2, 3, 3, 3, 3, 3);
    Due.is("begun", x.line(0, 0), 1L);
    Due.is("ended", x.line(0, 1), 1L << 35);
    Due.sentence(20, "whatever the STORE");
    for (int day = 0; day < 60; day++) x.mend(day, 2, 0);
    x.days(60);
    Due.is("ended", x.line(0, 1), 1L << 35);
  }

  private static void lineRefused() {
    Due.sentence(20, "Long.MIN_VALUE: BAD, or no ROW of bytes");
    DustCart x = shelved();
    for (int shelf : new int[] {-1, 0, 1, 2, 3, 4, 5, 6, MIN, MAX}) {
      Due.is("shelf " + shelf, x.line(shelf, 0), NONE);
      Due.is("shelf " + shelf, x.line(shelf, 1), NONE);
    }
    x.row(0, 0, 1);
    for (int what : new int[] {-1, 2, MIN, MAX}) Due.is("what " + what, x.line(0, what), NONE);
  }

  private static void drawnTimes() {
    Due.sentence(21, "n times (1 .. 30); BAD");
    DustCart x = new DustCart();
    for (int n : new int[] {0, -1, 31, MIN, MAX}) Due.is("n " + n, x.drawn(1, n, 1), -1);
    Due.is("n 1", x.drawn(1, 1, 1), 99);
    Due.is("n 30", x.drawn(1, 30, 1), 30 * 99);
    Due.sentence(21, "how often STORE is 0 behind some DAY: none of n, all of n");
    Due.is("none", x.drawn(1, 30, 0), 0);
    for (int day = 0; day < 60; day++) x.mend(day, 2, 0);
    Due.is("one", x.drawn(1, 1, 0), 1);
    Due.is("all", x.drawn(1, 30, 0), 30);
    Due.is("sum", x.drawn(1, 30, 1), 0);
    x.mend(59, 2, 20);
    Due.is("all, with light behind", x.drawn(1, 30, 0), 30);
  }

  private static void drawnDays() {
    Due.sentence(21, "from TODAY to DAY 59 (none, if TODAY is 60)");
    DustCart end = new DustCart();
    for (int day = 0; day < 60; day++) end.mend(day, 2, 0);
    end.days(60);
    Due.is("store", end.of(0, 22), 0);
    Due.is("how often, no day", end.drawn(7, 30, 0), 0);
    Due.is("sum, no day", end.drawn(7, 30, 1), 0);
    DustCart lit = behind(60);
    Due.is("sum, no day", lit.drawn(7, 30, 1), 30 * lit.of(0, 22));
    DustCart last = behind(59);
    last.mend(59, 2, 0);
    Due.is("sum, one day", last.drawn(7, 30, 1), 30 * (last.of(0, 22) - 4));
    Due.sentence(21, "an int, (z >>> 8) % 12 is below ODDS: SEED at its bounds, z wraps and goes on");
    for (int seed : new int[] {0, 1, -1, MIN, MAX, 0x7fffff00, 0x80000001}) {
      for (int odds : new int[] {0, 1, 6, 11, 12}) drawnIs(seed, odds);
    }
  }

  /** Two days are left; the light of the second is by the dust that the first one's wind leaves. */
  private static void drawnIs(int seed, int odds) {
    DustCart x = behind(58);
    x.mend(0, 5, odds);
    x.mend(58, 2, 4);
    x.mend(59, 2, 4);
    int z = seed;
    int sum = 0;
    for (int time = 0; time < 30; time++) {
      z = z * 1103515245 + 12345;
      boolean blown = (int) ((z & 0xffffffffL) / 256) % 12 < odds;
      // dust 9 takes 4 of the light, none takes 0
      sum += x.of(0, 22) - 4 + (blown ? 0 : -4);
      z = z * 1103515245 + 12345;
    }
    Due.is("seed " + seed + " odds " + odds, x.drawn(seed, 30, 1), sum);
  }

  private static void drawnRefused() {
    Due.sentence(21, "what 0, 1; BAD");
    DustCart x = new DustCart();
    for (int what : new int[] {-1, 2, MIN, MAX}) Due.is("what " + what, x.drawn(1, 1, what), -1);
    Due.sentence(21, "In thought: THE CART stays as it is");
    x.drawn(1, 30, 0);
    Due.is("cart", Due.cart(x), Due.cart(0, 0, 50, 0, 0));
  }

  private static void judgeDays() {
    Due.sentence(22, "the first that is not so");
    DustCart x = new DustCart();
    for (int wrong = 0; wrong < 3; wrong++) {
      Due.bytes(x, 0, 54, 58, 62);
      for (int i = wrong; i < 3; i++) x.put(0, i, 1);
      Due.is("wrong from " + wrong, x.judge(0), wrong);
    }
    for (int off : new int[] {53, 55, -54, 54 - 128}) {
      Due.bytes(x, 0, off);
      Due.is("told " + off, x.judge(0), 0);
    }
    Due.sentence(22, "NOT (also if it ends before)");
    x.row(0, 0, 0);
    Due.is("a row of none", x.judge(0), -2);
    Due.bytes(x, 0, 54);
    Due.is("a row of one", x.judge(0), -2);
    Due.sentence(22, "what is behind DAY 59 does not count");
    DustCart y = behind(58);
    int store = y.of(0, 22);
    y.mend(58, 2, 0);
    y.mend(59, 2, 0);
    Due.bytes(y, 0, store - 4, store - 8, 1);
    Due.is("right till day 59", y.judge(0), -2);
    Due.bytes(y, 0, store - 4, store - 7, 1);
    Due.is("wrong on day 59", y.judge(0), 1);
    DustCart z = behind(60);
    Due.bytes(z, 0, 1);
    Due.is("no day is left", z.judge(0), -2);
    Due.sentence(22, "STORE at its bounds, 0 and 99");
    DustCart bounds = new DustCart();
    Due.store(bounds, 3);
    int day = bounds.of(0, 20);
    bounds.mend(day, 2, 0);
    Due.bytes(bounds, 0, 0);
    Due.is("0", bounds.judge(0), -2);
    Due.bytes(bounds, 0, -1);
    Due.is("-1", bounds.judge(0), 0);
    Due.store(bounds, 99);
    bounds.mend(bounds.of(0, 20), 2, 20);
    Due.bytes(bounds, 0, 99);
    Due.is("99", bounds.judge(0), -2);
    Due.bytes(bounds, 0, 100);
    Due.is("100", bounds.judge(0), 0);
  }

  private static void judgeRefused() {
    Due.sentence(22, "BAD, -11, -12 (no ROW of bytes)");
    DustCart x = shelved();
    for (int shelf : new int[] {-1, 6, MIN, MAX}) Due.is("shelf " + shelf, x.judge(shelf), -1);
    Due.is("nothing", x.judge(0), -11);
    for (int shelf = 1; shelf <= 5; shelf++) Due.is("shelf " + shelf, x.judge(shelf), -12);
  }
}
