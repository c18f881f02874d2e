/** Promises 9 to 11 and 23 to 26, and a DAY by an ORDER: each sentence that names a boundary, one test each. */
public final class EdgeDayTest {
  private static final int MIN = Integer.MIN_VALUE, MAX = Integer.MAX_VALUE;

  public static void main(String[] args) {
    dayOrders();
    dayAtTheEnd();
    moveWithoutNeighbour();
    moveToTheFirstCell();
    moveForItsCost();
    look();
    sunLessDust();
    storeAtMost();
    storeAtLeast();
    hollow();
    dustByDays();
    dustAtMost();
    wind();
    daysMany();
    daysLeft();
    daysByTheLaw();
    ledDays();
    imageNone();
    imageKeeps();
    imageLaidBack();
    undoNone();
    undoLatestFirst();
    undoForty();
    redoAsLongAs();
    redoNone();
    Due.end("EdgeDayTest");
  }

  private static void dayOrders() {
    Due.sentence(9, "an ORDER (0 .. 5); BAD");
    DustCart x = new DustCart();
    for (int order : new int[] {-1, 6, MIN, MAX}) {
      Due.is("day " + order, x.day(order), -1);
      Due.is("no day was", Due.cart(x), Due.cart(0, 0, 50, 0, 0));
    }
    Due.is("day 0", x.day(0), 1);
    x.mend(0, 1, 1);
    Due.is("day 5", x.day(5), 1);
  }

  private static void dayAtTheEnd() {
    Due.sentence(9, "STATE: TODAY is 60");
    DustCart x = new DustCart();
    for (int day = 0; day < 60; day++) Due.is("day " + day, x.day(0), 1);
    long then = Due.cart(x);
    for (int order = 0; order <= 5; order++) Due.is("behind day 59", x.day(order), -5);
    Due.is("nothing changed", Due.cart(x), then);
    Due.sentence(9, "BAD ahead of STATE");
    Due.is("day -1", x.day(-1), -1);
    Due.is("day 6", x.day(6), -1);
  }

  /** A cart by a line of ways. */
  private static DustCart at(int... ways) {
    DustCart x = new DustCart();
    for (int way : ways) Due.is("way " + way, x.day(way), 1);
    return x;
  }

  private static void moveWithoutNeighbour() {
    Due.sentence(9, "a move, if there is such a neighbour; else it stays (an order that could not be)");
    int[][] to = {{}, {2, 2, 2, 2, 2}, {3, 3, 3, 3, 3}, {2, 2, 2, 2, 2, 3, 3, 3, 3, 3}};
    int[][] off = {{1, 4}, {1, 2}, {3, 4}, {2, 3}};
    int[] cells = {0, 5, 30, 35};
    for (int n = 0; n < 4; n++) {
      DustCart x = at(to[n]);
      for (int way : off[n]) {
        int store = x.of(0, 22);
        int dust = x.of(0, 23);
        Due.is("off the plain from " + cells[n], x.day(way), 0);
        Due.is("it stays", x.of(0, 21), cells[n]);
        Due.is("a day went by without a cost", x.of(0, 22), store + 8 - dust / 2 - 4);
      }
    }
  }

  private static void moveToTheFirstCell() {
    Due.sentence(9, "a neighbour: CELL 0 is one as any other");
    DustCart x = at(2, 4);
    Due.is("west to cell 0", x.of(0, 21), 0);
    DustCart y = at(3, 1);
    Due.is("north to cell 0", y.of(0, 21), 0);
    Due.sentence(9, "a neighbour: the end of a row is none of the next one's begin");
    DustCart z = at(2, 2, 2, 2, 2);
    Due.is("east of cell 5", z.day(2), 0);
    Due.is("it stays", z.of(0, 21), 5);
    DustCart w = at(3);
    Due.is("west of cell 6", w.day(4), 0);
    Due.is("it stays", w.of(0, 21), 6);
  }

  private static void moveForItsCost() {
    Due.sentence(9, "STORE is no less than COST");
    for (int store = 2; store <= 4; store++) {
      DustCart x = new DustCart();
      Due.store(x, store);
      x.mend(x.of(0, 20), 2, 20);
      int light = 20 - x.of(0, 23) / 2;
      Due.is("move by " + store, x.day(2), store >= 3 ? 1 : 0);
      Due.is("cell", x.of(0, 21), store >= 3 ? 1 : 0);
      Due.is("store", x.of(0, 22), (store >= 3 ? store - 3 : store) + light - 4);
    }
    Due.sentence(9, "STORE is no less than the most that a move can cost, 26");
    for (int store = 25; store <= 26; store++) {
      DustCart x = new DustCart();
      x.mend(0, 4, 1);
      x.mend(1, 0, 9);
      Due.store(x, store);
      Due.is("cost", x.cost(0, 2), 26);
      Due.is("move by " + store, x.day(2), store - 25);
    }
  }

  private static void look() {
    Due.sentence(9, "a look, if STORE is 2 or more: 2 less");
    for (int store = 0; store <= 3; store++) {
      DustCart x = new DustCart();
      x.mend(0, 1, 1);
      Due.store(x, store);
      x.mend(x.of(0, 20), 2, 20);
      int light = 20 - x.of(0, 23) / 2;
      boolean could = store >= 2;
      Due.is("look by " + store, x.day(5), could ? 1 : 0);
      Due.is("looked at", x.of(0, 11), could ? 1 : 0);
      Due.is("how many", x.of(0, 24), could ? 1 : 0);
      Due.is("store", x.of(0, 22), (could ? store - 2 : store) + light - 4);
    }
    Due.sentence(9, "a look, if it stands on a STONE not LOOKED AT");
    DustCart x = new DustCart();
    x.mend(1, 1, 1);
    Due.is("beside a stone", x.day(5), 0);
    x.mend(0, 1, 1);
    Due.is("on a stone", x.day(5), 1);
    Due.is("on one looked at", x.day(5), 0);
    x.mend(0, 1, 0);
    x.mend(0, 1, 1);
    Due.is("on one looked at, there anew", x.day(5), 0);
    Due.is("one", x.of(0, 24), 1);
    Due.sentence(9, "LOOKED AT (a long by CELLS): also CELL 35 and CELL 32, not CELL 0 or 3 with them");
    DustCart y = at(3, 3, 3, 3, 3, 2, 2);
    y.mend(32, 1, 1);
    y.mend(35, 1, 1);
    Due.is("look at 32", y.day(5), 1);
    for (int n = 0; n < 3; n++) y.day(2);
    Due.is("look at 35", y.day(5), 1);
    for (int cell = 0; cell < 36; cell++) Due.is("looked at " + cell, y.of(cell, 11), cell == 32 || cell == 35 ? 1 : 0);
    Due.is("how many", y.of(0, 24), 2);
    Due.sentence(9, "LOOKED AT: as many as 60 DAYS can, 30");
    DustCart z = new DustCart();
    for (int cell = 0; cell < 36; cell++) z.mend(cell, 1, 1);
    for (int day = 0; day < 60; day++) z.mend(day, 2, 20);
    // a look, then a move, to and fro by rows
    Due.law(z, "o?5;c/6%2=0&c%6<5?2;c/6%2=1&c%6>0?4;3");
    Due.is("all could be", z.days(60), 60);
    Due.is("looked at", z.of(0, 24), 30);
    Due.is("count of stones stays", z.count(0), 36);
  }

  private static void sunLessDust() {
    Due.sentence(9, "SUN less half of DUST (cut; 0 at least)");
    DustCart x = new DustCart();
    int dust = 0;
    for (int day = 0; day < 57; day++) {
      // one less than half of the dust, as much, and one more, by turns
      int sun = Math.max(0, dust / 2 - 1 + day % 3);
      if (x.of(0, 22) < 8) sun = 20;
      x.mend(day, 2, sun);
      int store = x.of(0, 22);
      x.day(0);
      Due.is("store behind " + day, x.of(0, 22), Math.max(0, store + Math.max(0, sun - dust / 2) - 4));
      if (day % 3 == 0) dust = Math.min(9, dust + 1);
    }
    Due.is("dust 9: half of it is 4", x.of(0, 23), 9);
    x.mend(57, 2, 5);
    int store = x.of(0, 22);
    x.mend(58, 2, 4);
    x.day(0);
    Due.is("sun 5", x.of(0, 22), store + 1 - 4);
    x.day(0);
    Due.is("sun 4", x.of(0, 22), Math.max(0, store - 3 - 4));
  }

  private static void storeAtMost() {
    Due.sentence(9, "it is 99 at most");
    for (int more = -1; more <= 1; more++) {
      DustCart x = new DustCart();
      Due.store(x, 90);
      x.mend(x.of(0, 20), 2, 13 + more + x.of(0, 23) / 2);
      x.day(0);
      Due.is("store", x.of(0, 22), Math.min(99, 99 + more));
    }
    Due.sentence(9, "at most behind 3, not behind 2: what the night takes comes off first");
    DustCart x = new DustCart();
    Due.store(x, 99);
    x.mend(x.of(0, 20), 2, 4 + x.of(0, 23) / 2);
    x.day(0);
    Due.is("99 and 4 less 4", x.of(0, 22), 99);
    x.mend(x.of(0, 20), 2, 3 + x.of(0, 23) / 2);
    x.day(0);
    Due.is("99 and 3 less 4", x.of(0, 22), 98);
  }

  private static void storeAtLeast() {
    Due.sentence(9, "it is 0 at least");
    for (int store = 0; store <= 5; store++) {
      DustCart x = new DustCart();
      Due.store(x, store);
      x.mend(x.of(0, 20), 2, 0);
      x.day(0);
      Due.is("store behind " + store, x.of(0, 22), Math.max(0, store - 4));
    }
    Due.sentence(9, "at least behind 3, not ahead of it: light and night count together");
    DustCart x = new DustCart();
    Due.store(x, 0);
    for (int less = 3; less <= 5; less++) {
      x.mend(x.of(0, 20), 2, less + x.of(0, 23) / 2);
      x.day(0);
      Due.is("0 and " + less + " less 4", x.of(0, 22), Math.max(0, less - 4));
    }
  }

  private static void hollow() {
    Due.sentence(9, "STORE is less by 4 (by 2 in a HOLLOW)");
    for (int high = 0; high <= 2; high++) {
      DustCart x = new DustCart();
      x.mend(0, 0, 1);
      x.mend(1, 0, high);
      x.mend(6, 0, 2);
      x.mend(0, 2, 0);
      x.day(0);
      Due.is("store beside a " + high, x.of(0, 22), high == 2 ? 48 : 46);
    }
    Due.sentence(9, "the CELL is the one behind the move");
    DustCart x = new DustCart();
    x.mend(2, 0, 1);
    x.mend(7, 0, 1);
    x.mend(0, 0, 1);
    x.mend(0, 2, 0);
    x.mend(0, 3, 9);
    x.day(2);
    Due.is("into a hollow", Due.cart(x), Due.cart(1, 1, 50 - 3 - 2, 1, 0));
    x.mend(1, 2, 0);
    x.mend(1, 3, 9);
    x.day(2);
    Due.is("out of it", Due.cart(x), Due.cart(2, 2, 45 - 5 - 4, 0, 0));
    Due.sentence(9, "(by 2 in a HOLLOW); it is 0 at least");
    for (int store = 1; store <= 3; store++) {
      DustCart y = new DustCart();
      y.mend(1, 0, 1);
      y.mend(6, 0, 1);
      Due.store(y, store);
      y.mend(y.of(0, 20), 2, 0);
      y.day(0);
      Due.is("store behind " + store, y.of(0, 22), Math.max(0, store - 2));
    }
  }

  private static void dustByDays() {
    Due.sentence(9, "DUST is 1 more, if 3 goes into the DAY");
    DustCart x = new DustCart();
    int[] due = {1, 1, 1, 2, 2, 2, 3, 3, 3, 4};
    for (int day = 0; day < due.length; day++) {
      x.day(0);
      Due.is("dust behind day " + day, x.of(0, 23), due[day]);
    }
  }

  private static void dustAtMost() {
    Due.sentence(9, "DUST (9 at most)");
    DustCart x = new DustCart();
    x.days(24);
    Due.is("ahead of day 24", x.of(0, 23), 8);
    x.days(1);
    Due.is("behind day 24", x.of(0, 23), 9);
    x.days(3);
    Due.is("behind day 27", x.of(0, 23), 9);
    x.days(32);
    Due.is("behind day 59", x.of(0, 23), 9);
  }

  private static void wind() {
    Due.sentence(9, "it is 0, if WIND is 7 or more");
    for (int wind = 0; wind <= 9; wind++) {
      DustCart x = new DustCart();
      x.days(3);
      x.mend(3, 3, wind);
      x.day(0);
      Due.is("dust behind wind " + wind, x.of(0, 23), wind >= 7 ? 0 : 2);
      x.mend(4, 3, wind);
      x.day(0);
      Due.is("dust behind wind " + wind, x.of(0, 23), wind >= 7 ? 0 : 2);
    }
    Due.sentence(9, "and the CELL is no HOLLOW");
    for (int wind = 6; wind <= 9; wind++) {
      DustCart x = new DustCart();
      x.mend(1, 0, 1);
      x.mend(6, 0, 1);
      x.mend(0, 3, wind);
      x.day(0);
      Due.is("dust in a hollow behind wind " + wind, x.of(0, 23), 1);
    }
    Due.sentence(9, "the light of a DAY is by the DUST ahead of it, its wind blows behind");
    DustCart x = new DustCart();
    x.days(4);
    x.mend(4, 3, 9);
    int store = x.of(0, 22);
    x.day(0);
    Due.is("store", x.of(0, 22), store + 8 - 1 - 4);
    x.day(0);
    Due.is("store", x.of(0, 22), store + 3 + 8 - 4);
  }

  private static void daysMany() {
    Due.sentence(10, "n DAYS (1 .. 60); BAD");
    DustCart x = new DustCart();
    for (int n : new int[] {0, -1, 61, MIN, MAX}) Due.is("days " + n, x.days(n), -1);
    Due.is("no day was", x.of(0, 20), 0);
    Due.is("days 1", x.days(1), 1);
    Due.is("days 60", new DustCart().days(60), 60);
  }

  private static void daysLeft() {
    Due.sentence(10, "STATE: there are not as many left");
    DustCart x = new DustCart();
    x.days(57);
    long then = Due.cart(x);
    Due.is("days 60", x.days(60), -5);
    Due.is("days 4", x.days(4), -5);
    Due.is("nothing changed", Due.cart(x), then);
    Due.is("days 3", x.days(3), 3);
    Due.is("days 1", x.days(1), -5);
    Due.sentence(10, "BAD ahead of STATE");
    Due.is("days 61", x.days(61), -1);
    Due.is("days 0", x.days(0), -1);
  }

  private static void daysByTheLaw() {
    Due.sentence(10, "how many of their ORDERS could be");
    DustCart none = new DustCart();
    Due.law(none, "1");
    Due.is("none of 60", none.days(60), 0);
    DustCart x = new DustCart();
    Due.law(x, "d");
    // 0 stays, 1 off the plain, 2 east, 3 south, 4 west, 5 no stone, 6 .. behind it 0, as what is left by 6
    Due.is("days", x.days(6), 4);
    Due.law(x, "0-d");
    Due.is("below 0 stays", x.days(10), 10);
    for (int day = 6; day < 16; day++) Due.is("order below 0", x.led(day, 0), 0);
  }

  private static void ledDays() {
    Due.sentence(11, "a DAY that was; BAD");
    DustCart x = new DustCart();
    for (int day : new int[] {0, 1, -1, MIN, MAX}) Due.is("led " + day, x.led(day, 0), -1);
    x.day(3);
    x.day(4);
    Due.is("led 0", x.led(0, 0), 3);
    Due.is("led 1", x.led(1, 0), 4);
    Due.is("could", x.led(0, 1), 1);
    Due.is("could not", x.led(1, 1), 0);
    for (int day : new int[] {2, 59, 60, -1, MIN, MAX}) Due.is("led " + day, x.led(day, 0), -1);
    Due.sentence(11, "what 0, 1; BAD");
    for (int what : new int[] {-1, 2, MIN, MAX}) Due.is("led what " + what, x.led(0, what), -1);
    Due.sentence(11, "the last DAY, 59");
    x.days(57);
    Due.is("led 59", x.led(59, 0), -1);
    x.day(1);
    Due.is("led 59", x.led(59, 0), 1);
    for (int day : new int[] {60, 61, MAX}) Due.is("led " + day, x.led(day, 0), -1);
    Due.sentence(11, "a refused day is none that was");
    DustCart y = new DustCart();
    y.day(6);
    y.days(61);
    Due.is("led 0", y.led(0, 0), -1);
  }

  private static void imageNone() {
    Due.sentence(24, "STATE: there is none");
    DustCart x = new DustCart();
    x.day(2);
    long then = Due.cart(x);
    Due.is("back", x.back(), -5);
    Due.is("nothing changed", Due.cart(x), then);
  }

  private static void imageKeeps() {
    Due.sentence(23, "AN IMAGE is kept: TODAY");
    DustCart x = new DustCart();
    Due.is("image on day 0", x.image(), 0);
    x.days(59);
    Due.is("image on day 59", x.image(), 59);
    x.days(1);
    Due.is("image at the end", x.image(), 60);
    Due.is("back at the end", x.back(), 60);
    Due.sentence(23, "the latest image alone");
    DustCart y = new DustCart();
    y.image();
    y.day(2);
    y.image();
    long then = Due.cart(y);
    y.day(2);
    Due.is("back", y.back(), 1);
    Due.is("as it was", Due.cart(y), then);
    Due.is("back again", y.back(), 1);
  }

  private static void imageLaidBack() {
    Due.sentence(24, "AN IMAGE keeps TODAY, THE CART but for WHEELS");
    DustCart x = new DustCart();
    x.mend(0, 1, 1);
    x.image();
    x.mend(0, 4, 2);
    x.mend(5, 0, 7);
    x.mend(3, 2, 1);
    x.mend(0, 5, 9);
    x.day(5);
    x.day(3);
    Due.is("back", x.back(), 0);
    Due.is("as at first", Due.cart(x), Due.cart(0, 0, 50, 0, 0));
    Due.is("not looked at", x.of(0, 11), 0);
    Due.is("wheels stay", x.of(0, 4), 2);
    Due.is("the plain stays", x.of(5, 0) * 10 + x.of(0, 1), 71);
    Due.is("suns and odds stay", x.of(3, 2) * 10 + x.of(0, 5), 19);
    Due.is("changes stay", x.count(3), 5);
    Due.is("the look can be again", x.day(5), 1);
    Due.sentence(24, "days laid back are none that were");
    DustCart y = new DustCart();
    y.day(2);
    y.image();
    y.day(3);
    y.back();
    Due.is("led 0", y.led(0, 0), 2);
    Due.is("led 1", y.led(1, 0), -1);
    y.day(1);
    Due.is("led 1 anew", y.led(1, 0) * 10 + y.led(1, 1), 10);
    Due.sentence(24, "from behind day 59");
    DustCart z = new DustCart();
    z.image();
    z.days(60);
    Due.is("order at the end", z.order(), -5);
    Due.is("back", z.back(), 0);
    Due.is("order", z.order(), 0);
    Due.is("60 days again", z.days(60), 60);
  }

  private static void undoNone() {
    Due.sentence(25, "STATE: none");
    DustCart x = new DustCart();
    Due.is("undo", x.undo(), -5);
    x.mend(0, 0, 10);
    Due.is("undo behind a BAD mend", x.undo(), -5);
    x.mend(0, 0, 0);
    Due.is("undo behind no change", x.undo(), -5);
    x.mend(0, 0, 1);
    Due.is("undo", x.undo(), 0);
    Due.is("undo", x.undo(), -5);
    Due.is("undone", x.of(0, 0), 0);
  }

  private static void undoLatestFirst() {
    Due.sentence(25, "UNDONE, the latest first: how many may still be");
    DustCart x = new DustCart();
    for (int v = 1; v <= 5; v++) x.mend(7, 0, v);
    for (int v = 4; v >= 0; v--) {
      Due.is("undo", x.undo(), v);
      Due.is("undone", x.of(7, 0), v);
      Due.is("count", x.count(3), v);
    }
  }

  private static void undoForty() {
    Due.sentence(25, "40 at most are kept");
    for (int many = 39; many <= 42; many++) {
      DustCart x = new DustCart();
      for (int n = 0; n < many; n++) {
        x.mend(n, 2, 9);
        Due.is("kept", x.count(3), Math.min(40, n + 1));
      }
      int kept = Math.min(40, many);
      for (int n = kept - 1; n >= 0; n--) Due.is("undo", x.undo(), n);
      Due.is("undo", x.undo(), -5);
      for (int n = 0; n < many; n++) Due.is("sun " + n + " of " + many, x.of(n, 2), n < many - kept ? 9 : 8);
      for (int n = kept - 1; n >= 0; n--) Due.is("redo", x.redo(), n);
      Due.is("redo", x.redo(), -5);
      for (int n = 0; n < many; n++) Due.is("sun " + n + " of " + many, x.of(n, 2), 9);
    }
    Due.sentence(25, "40 at most: of 47 of one number, each by its own value");
    DustCart y = new DustCart();
    for (int n = 0; n < 47; n++) Due.is("mend", y.mend(4, 2, n % 20), n == 0 ? 8 : (n - 1) % 20);
    for (int n = 46; n > 6; n--) {
      Due.is("undo", y.undo(), n - 7);
      Due.is("undone", y.of(4, 2), (n - 1) % 20);
    }
    Due.is("undo", y.undo(), -5);
    for (int n = 7; n < 47; n++) {
      Due.is("redo", y.redo(), 46 - n);
      Due.is("done again", y.of(4, 2), n % 20);
    }
    Due.is("redo", y.redo(), -5);
    Due.sentence(25, "40 at most: one in the place of one undone drops none");
    DustCart x = new DustCart();
    for (int n = 0; n < 40; n++) x.mend(n, 2, 9);
    x.undo();
    x.mend(50, 2, 9);
    Due.is("kept", x.count(3), 40);
    for (int n = 39; n >= 0; n--) Due.is("undo", x.undo(), n);
    Due.is("the first is undone", x.of(0, 2), 8);
  }

  private static void redoAsLongAs() {
    Due.sentence(26, "DONE AGAIN (as long as no other came behind)");
    int[] v = {3, 1, 3, 5, 3, 5};
    for (int what = 0; what <= 5; what++) {
      DustCart x = new DustCart();
      x.mend(9, 0, 4);
      x.mend(9, 0, 6);
      x.undo();
      x.mend(0, what, v[what]);
      Due.is("redo behind a change of " + what, x.redo(), -5);
      Due.is("not done again", x.of(9, 0), 4);
      Due.is("kept", x.count(3), 2);
    }
    Due.sentence(26, "what is no change, or BAD, or something else, is no other behind");
    DustCart x = new DustCart();
    x.mend(9, 0, 4);
    x.undo();
    x.mend(8, 0, 0);
    x.mend(8, 0, 10);
    x.mend(36, 0, 1);
    x.day(2);
    x.image();
    x.back();
    Due.law(x, "3");
    Due.bytes(x, 0, 7);
    x.heights(0, 0, 1);
    Due.is("redo", x.redo(), 0);
    Due.is("done again", x.of(9, 0), 4);
    Due.is("the told height stays", x.of(0, 0), 7);
    Due.sentence(26, "some undone, a change behind those that stay: only they and it may be undone");
    DustCart y = new DustCart();
    for (int n = 1; n <= 5; n++) y.mend(n, 0, n);
    for (int n = 0; n < 3; n++) y.undo();
    y.mend(6, 0, 6);
    Due.is("redo", y.redo(), -5);
    Due.is("undo", y.undo(), 2);
    Due.is("undo", y.undo(), 1);
    Due.is("undo", y.undo(), 0);
    Due.is("undo", y.undo(), -5);
    Due.is("redo", y.redo(), 2);
    Due.is("redo", y.redo(), 1);
    Due.is("redo", y.redo(), 0);
    Due.is("as told", y.of(1, 0) * 100 + y.of(2, 0) * 10 + y.of(6, 0), 126);
    Due.is("not told", y.of(3, 0) + y.of(4, 0) + y.of(5, 0), 0);
  }

  private static void redoNone() {
    Due.sentence(26, "STATE: none");
    DustCart x = new DustCart();
    Due.is("redo", x.redo(), -5);
    x.mend(0, 0, 1);
    Due.is("redo", x.redo(), -5);
    x.undo();
    Due.is("redo", x.redo(), 0);
    Due.is("redo", x.redo(), -5);
    Due.is("done again once", x.of(0, 0), 1);
    Due.is("kept once", x.count(3), 1);
  }
}
