/** Promises 9 to 11 and 23 to 26: days in deed, what was led, the image, undone and done again. */
public final class DeedTest {
  public static void main(String[] args) {
    moves();
    movesThatCannotBe();
    looks();
    storeAndDust();
    hollow();
    dayRefused();
    days();
    led();
    image();
    undo();
    undoKinds();
    fortyChanges();
    Due.end("DeedTest");
  }

  private static void moves() {
    DustCart x = new DustCart();
    Due.is("day east", x.day(2), 1);
    Due.is("east", Due.cart(x), Due.cart(1, 1, 51, 1, 0));
    Due.is("day south", x.day(3), 1);
    Due.is("south", Due.cart(x), Due.cart(2, 7, 52, 1, 0));
    Due.is("day west", x.day(4), 1);
    Due.is("west", Due.cart(x), Due.cart(3, 6, 53, 1, 0));
    Due.is("day north", x.day(1), 1);
    Due.is("north", Due.cart(x), Due.cart(4, 0, 54, 2, 0));
    Due.is("day stay", x.day(0), 1);
    Due.is("stay", Due.cart(x), Due.cart(5, 0, 57, 2, 0));
    x.mend(1, 0, 3);
    x.mend(0, 4, 4);
    Due.is("day up", x.day(2), 1);
    Due.is("up", Due.cart(x), Due.cart(6, 1, 57 - 11 + 7 - 4, 2, 0));
  }

  private static void movesThatCannotBe() {
    DustCart x = new DustCart();
    Due.is("day north off the plain", x.day(1), 0);
    Due.is("it stays", Due.cart(x), Due.cart(1, 0, 54, 1, 0));
    Due.is("day west off the plain", x.day(4), 0);
    for (int day = 0; day < 60; day++) x.mend(day, 2, 0);
    x.days(11);
    Due.is("store", x.of(0, 22), 58 - 44);
    x.mend(1, 0, 6);
    Due.is("day too dear", x.day(2), 0);
    Due.is("store", x.of(0, 22), 10);
    x.mend(1, 0, 3);
    x.mend(0, 4, 5);
    Due.is("cost of all the store", x.cost(0, 2), 10);
    Due.is("day for all the store", x.day(2), 1);
    Due.is("store is 0 at least", Due.cart(x), Due.cart(15, 1, 0, 5, 0));
    Due.is("day without store", x.day(4), 0);
    Due.is("day stays without store", x.day(0), 1);
  }

  private static void looks() {
    DustCart x = new DustCart();
    Due.is("look without a stone", x.day(5), 0);
    x.mend(0, 1, 1);
    Due.is("look", x.day(5), 1);
    Due.is("look costs 2", Due.cart(x), Due.cart(2, 0, 56, 1, 1));
    Due.is("look again", x.day(5), 0);
    x.mend(0, 1, 0);
    x.mend(0, 1, 1);
    Due.is("look again at the place", x.day(5), 0);
    x.mend(6, 1, 1);
    for (int day = 0; day < 60; day++) x.mend(day, 2, 0);
    Due.law(x, "0");
    x.day(3);
    x.days(20);
    Due.is("no store", x.of(0, 22), 0);
    Due.is("look without store", x.day(5), 0);
    x.mend(x.of(0, 20), 2, 6);
    x.day(0);
    Due.is("store", x.of(0, 22), 0);
    x.mend(x.of(0, 20), 2, 10);
    x.day(0);
    int store = x.of(0, 22);
    Due.is("store by half of dust, cut", store, 10 - x.of(0, 23) / 2 - 4);
    Due.is("look by what is there", x.day(5), 1);
    Due.is("both looked at", x.of(6, 11) + x.of(0, 11) + x.of(0, 24), 4);
  }

  private static void storeAndDust() {
    DustCart x = new DustCart();
    int[] dust = {1, 1, 1, 2, 2, 2, 3, 3, 3, 4};
    int store = 50;
    int before = 0;
    for (int day = 0; day < 10; day++) {
      x.day(0);
      store += 8 - before / 2 - 4;
      before = dust[day];
      Due.is("store and dust", Due.cart(x), Due.cart(day + 1, 0, store, before, 0));
    }
    x.mend(10, 3, 6);
    x.day(0);
    Due.is("wind 6", x.of(0, 23), 4);
    x.mend(11, 3, 7);
    x.day(0);
    Due.is("wind 7", x.of(0, 23), 0);
    x.mend(12, 3, 7);
    x.day(0);
    Due.is("wind 7 on a day by 3", x.of(0, 23), 0);
    DustCart y = new DustCart();
    y.mend(0, 3, 7);
    y.day(0);
    Due.is("wind 7 on day 0", y.of(0, 23), 0);
    x.mend(13, 2, 20);
    for (int day = 14; day < 60; day++) x.mend(day, 2, day < 30 ? 20 : 1);
    x.days(10);
    Due.is("store at most", x.of(0, 22), 99);
    x.days(22);
    Due.is("sun less dust is 0 at least", x.of(0, 22), 99 - 15 * 4);
    x.days(15);
    Due.is("dust at most", x.of(0, 23), 9);
    Due.is("the end", x.of(0, 20), 60);
  }

  private static void hollow() {
    DustCart x = new DustCart();
    x.mend(1, 0, 1);
    x.mend(6, 0, 1);
    x.mend(0, 2, 0);
    x.mend(0, 3, 9);
    x.day(0);
    Due.is("hollow", Due.cart(x), Due.cart(1, 0, 48, 1, 0));
    x.mend(1, 2, 0);
    x.mend(1, 3, 9);
    x.day(2);
    Due.is("out of the hollow", Due.cart(x), Due.cart(2, 1, 48 - 5 - 4, 0, 0));
    x.mend(2, 2, 0);
    x.mend(3, 2, 0);
    x.mend(2, 3, 7);
    x.mend(3, 3, 7);
    x.day(4);
    Due.is("into the hollow", Due.cart(x), Due.cart(3, 0, 39 - 3 - 2, 0, 0));
    x.day(0);
    Due.is("dust in the hollow", Due.cart(x), Due.cart(4, 0, 32, 1, 0));
  }

  private static void dayRefused() {
    DustCart x = new DustCart();
    Due.is("day", x.day(-1), -1);
    Due.is("day", x.day(6), -1);
    Due.is("no day was", x.of(0, 20), 0);
    x.days(60);
    Due.is("day behind the last", x.day(0), -5);
    Due.is("day bad behind the last", x.day(6), -1);
  }

  private static void days() {
    DustCart x = new DustCart();
    Due.is("days", x.days(0), -1);
    Due.is("days", x.days(-1), -1);
    Due.is("days", x.days(61), -1);
    Due.law(x, "2");
    Due.is("days east", x.days(7), 5);
    Due.is("cell", x.of(0, 21), 5);
    Due.is("days", x.days(54), -5);
    Due.is("today", x.of(0, 20), 7);
    Due.law(x, "d<9?3;c>10?4;5");
    Due.is("days by the law", x.days(5), 5);
    Due.is("cell", x.of(0, 21), 14);
    Due.is("days", x.days(48), 2);
    Due.is("days", x.days(1), -5);
    Due.is("days bad", x.days(61), -1);
    DustCart y = new DustCart();
    y.mend(0, 1, 1);
    Due.is("days without a text", y.days(60), 60);
    Due.is("looked", y.led(0, 0) * 100 + y.led(1, 0) * 10 + y.of(0, 24), 501);
  }

  private static void led() {
    DustCart x = new DustCart();
    Due.is("led", x.led(0, 0), -1);
    x.day(2);
    x.day(1);
    x.day(5);
    Due.law(x, "3");
    x.days(1);
    int[] orders = {2, 1, 5, 3};
    int[] could = {1, 0, 0, 1};
    for (int day = 0; day < 4; day++) {
      Due.is("led order", x.led(day, 0), orders[day]);
      Due.is("led could", x.led(day, 1), could[day]);
    }
    Due.is("led", x.led(4, 0), -1);
    Due.is("led", x.led(-1, 0), -1);
    Due.is("led", x.led(0, 2), -1);
    Due.is("led", x.led(0, -1), -1);
    Due.is("led", x.led(60, 0), -1);
    x.days(56);
    Due.is("led last", x.led(59, 0), 3);
    Due.is("led last", x.led(59, 1), 0);
    Due.is("led", x.led(60, 1), -1);
  }

  private static void image() {
    DustCart x = new DustCart();
    x.mend(0, 1, 1);
    x.mend(1, 1, 1);
    x.day(5);
    x.day(2);
    Due.is("image", x.image(), 2);
    long then = Due.cart(x);
    x.mend(0, 4, 3);
    x.mend(7, 0, 5);
    x.day(5);
    x.day(3);
    x.day(3);
    Due.is("back", x.back(), 2);
    Due.is("laid back", Due.cart(x), then);
    Due.is("looked at", x.of(0, 11) * 10 + x.of(1, 11), 10);
    Due.is("wheels stay", x.of(0, 4), 3);
    Due.is("heights stay", x.of(7, 0), 5);
    Due.is("changes stay", x.count(3), 4);
    Due.is("led of a day laid back", x.led(2, 0), -1);
    Due.is("led of a day ahead", x.led(1, 0), 2);
    x.day(4);
    Due.is("led anew", x.led(2, 0), 4);
    Due.is("back once more", x.back(), 2);
    Due.is("laid back once more", Due.cart(x), then);
    x.days(58);
    Due.is("image at the end", x.image(), 60);
    Due.is("back at the end", x.back(), 60);
    DustCart y = new DustCart();
    Due.is("back without an image", y.back(), -5);
    Due.is("image at first", y.image(), 0);
    y.days(3);
    Due.is("back", y.back(), 0);
    Due.is("as at first", Due.cart(y), Due.cart(0, 0, 50, 0, 0));
  }

  private static void undo() {
    DustCart x = new DustCart();
    x.mend(3, 0, 4);
    x.mend(3, 0, 7);
    x.mend(3, 1, 1);
    Due.is("undo", x.undo(), 2);
    Due.is("stone", x.of(3, 1), 0);
    Due.is("undo", x.undo(), 1);
    Due.is("high", x.of(3, 0), 4);
    Due.is("redo", x.redo(), 1);
    Due.is("high", x.of(3, 0), 7);
    Due.is("undo", x.undo(), 1);
    Due.is("undo", x.undo(), 0);
    Due.is("high", x.of(3, 0), 0);
    Due.is("undo", x.undo(), -5);
    Due.is("redo", x.redo(), 2);
    Due.is("redo", x.redo(), 1);
    Due.is("redo", x.redo(), 0);
    Due.is("stone", x.of(3, 1), 1);
    Due.is("redo", x.redo(), -5);
    x.undo();
    x.undo();
    Due.is("a bad change", x.mend(3, 0, 10), -1);
    Due.is("redo behind a bad change", x.redo(), 1);
    Due.is("count", x.count(3), 2);
    Due.is("a change", x.mend(4, 0, 1), 0);
    Due.is("redo behind a change", x.redo(), -5);
    Due.is("count", x.count(3), 3);
    x.mend(4, 0, 1);
    Due.is("no change to the same", x.count(3), 3);
    x.mend(4, 0, 2);
    Due.is("count", x.count(3), 4);
    x.day(2);
    x.image();
    x.back();
    Due.is("undo behind days", x.undo(), 3);
    Due.is("redo", x.redo(), 0);
  }

  private static void undoKinds() {
    DustCart x = new DustCart();
    int[] v = {5, 1, 7, 9, 3, 11};
    int[] was = {0, 0, 8, 3, 6, 2};
    for (int what = 0; what < 6; what++) x.mend(0, what, v[what]);
    for (int what = 5; what >= 0; what--) {
      Due.is("undo " + what, x.undo(), what);
      Due.is("undone " + what, x.of(0, what), was[what]);
    }
    for (int what = 0; what < 6; what++) {
      Due.is("redo " + what, x.redo(), 5 - what);
      Due.is("done again " + what, x.of(0, what), v[what]);
    }
  }

  private static void fortyChanges() {
    DustCart x = new DustCart();
    for (int n = 0; n < 45; n++) {
      x.mend(n % 36, 0, 1 + n % 7); // the second round tells other heights: each is a change
      Due.is("changes kept", x.count(3), Math.min(40, n + 1));
    }
    for (int n = 39; n >= 0; n--) Due.is("undo", x.undo(), n);
    Due.is("undo", x.undo(), -5);
    Due.is("the fifth stands", x.of(4, 0), 5);
    Due.is("the sixth is undone", x.of(5, 0), 0);
    Due.is("those of the first round stand", x.of(0, 0), 1);
    for (int n = 39; n >= 0; n--) {
      Due.is("redo", x.redo(), n);
      Due.is("done again", x.of((44 - n) % 36, 0), 1 + (44 - n) % 7);
    }
    Due.is("redo", x.redo(), -5);
    Due.is("mend to the same", x.mend(0, 0, x.of(0, 0)), 2);
    Due.is("forty are kept", x.count(3), 40);
    for (int n = 39; n >= 0; n--) Due.is("undo", x.undo(), n);
    Due.is("none of the forty was dropped", x.of(5, 0), 0);
  }
}
