/** Promises 30 to 36: what shelves hold, and the counts. */
public final class ShelfTest {
  private static final long VOID = Long.MIN_VALUE;

  public static void main(String[] args) {
    keep();
    row();
    put();
    putNarrows();
    refusals();
    shift();
    shiftRefused();
    taken();
    count();
    Due.end("ShelfTest");
  }

  private static void keep() {
    DustCart x = new DustCart();
    Due.is("keep no body", x.keep(0, 0), -1);
    x.body(6);
    x.body(7);
    Due.is("keep", x.keep(0, 1), 1);
    Due.is("taken", x.taken(0, 0), 7);
    Due.is("keep", x.keep(5, 0), 1);
    Due.is("taken", x.taken(5, 0), 6);
    Due.is("taken", x.taken(0, 0), 7);
    Due.is("keep bad", x.keep(0, 2), -1);
    Due.is("keep bad", x.keep(0, -2), -1);
    Due.is("keep bad", x.keep(6, 0), -1);
    Due.is("keep bad", x.keep(-1, -1), -1);
    Due.is("taken", x.taken(0, 0), 7);
    Due.is("keep nothing", x.keep(0, -1), 1);
    Due.is("taken", x.taken(0, 0), -11);
    Due.is("keep nothing again", x.keep(0, -1), 1);
    x.row(0, 2, 3);
    Due.is("keep instead of a row", x.keep(0, 0), 1);
    Due.is("put", x.put(0, 0, 1), -12);
  }

  private static void row() {
    DustCart x = new DustCart();
    for (int sort = 0; sort < 5; sort++) {
      Due.is("row", x.row(sort, sort, 60), 1);
      for (int i = 0; i < 60; i++) Due.is("new element", x.element(sort, i), 0);
      Due.is("element behind", x.element(sort, 60), VOID);
      Due.is("put the last", x.put(sort, 59, 1), 1);
      Due.is("row anew", x.row(sort, sort, 60), 1);
      Due.is("new element", x.element(sort, 59), 0);
    }
    Due.is("row of none", x.row(5, 0, 0), 1);
    Due.is("element", x.element(5, 0), VOID);
    Due.is("row bad", x.row(6, 0, 1), -1);
    Due.is("row bad", x.row(-1, 0, 1), -1);
    Due.is("row bad", x.row(0, 5, 1), -1);
    Due.is("row bad", x.row(0, -1, 1), -1);
    Due.is("row bad", x.row(0, 0, 61), -1);
    Due.is("row bad", x.row(0, 0, Integer.MAX_VALUE), -1);
    Due.is("row below", x.row(0, 0, -1), -14);
    Due.is("row below", x.row(0, 0, Integer.MIN_VALUE), -14);
    Due.is("row bad ahead of below", x.row(0, 5, -1), -1);
    Due.is("row bad ahead of below", x.row(6, 0, -1), -1);
    x.put(0, 0, 9);
    x.row(0, 0, -1);
    x.row(0, 0, 61);
    Due.is("refused changes nothing", x.element(0, 0), 9);
  }

  private static void put() {
    DustCart x = new DustCart();
    x.row(1, 3, 3);
    Due.is("put", x.put(1, 0, 5), 1);
    Due.is("put", x.put(1, 2, -7), 1);
    Due.is("element", x.element(1, 0), 5);
    Due.is("element", x.element(1, 1), 0);
    Due.is("element", x.element(1, 2), -7);
    Due.is("put behind", x.put(1, 3, 1), -13);
    Due.is("put ahead", x.put(1, -1, 1), -13);
    Due.is("put far", x.put(1, Integer.MAX_VALUE, 1), -13);
    x.row(1, 3, 2);
    Due.is("put behind the shorter", x.put(1, 2, 1), -13);
  }

  private static void putNarrows() {
    DustCart x = new DustCart();
    for (int sort = 0; sort < 5; sort++) x.row(sort, sort, 1);
    long[] all = {0, 1, 127, 128, 255, 256, 300, 32767, 32768, 65536, -1, -129, 1L << 31, 1L << 32, 5L << 40,
      Long.MAX_VALUE, Long.MIN_VALUE};
    for (long v : all) {
      for (int sort = 0; sort < 5; sort++) x.put(sort, 0, v);
      Due.is("byte", x.element(0, 0), (byte) v);
      Due.is("short", x.element(1, 0), (short) v);
      Due.is("int", x.element(2, 0), (int) v);
      Due.is("long", x.element(3, 0), v);
      Due.is("boolean", x.element(4, 0), v != 0 ? 1 : 0);
    }
    x.put(0, 0, 200);
    Due.is("byte", x.element(0, 0), -56);
    x.put(4, 0, 256);
    Due.is("boolean", x.element(4, 0), 1);
  }

  private static void refusals() {
    DustCart x = new DustCart();
    x.body(0);
    x.keep(1, 0);
    x.row(2, 0, 1);
    for (int bad : new int[] {-1, 6}) {
      Due.is("put shelf", x.put(bad, 0, 0), -1);
      Due.is("element shelf", x.element(bad, 0), VOID);
      Due.is("taken shelf", x.taken(bad, 0), -1);
    }
    Due.is("put nothing", x.put(0, -1, 0), -11);
    Due.is("put body", x.put(1, -1, 0), -12);
    Due.is("put place", x.put(2, 1, 0), -13);
    Due.is("element nothing", x.element(0, 0), VOID);
    Due.is("element body", x.element(1, 0), VOID);
    Due.is("element place", x.element(2, 1), VOID);
    Due.is("element place", x.element(2, -1), VOID);
  }

  private static void shift() {
    for (int sort = 0; sort < 4; sort++) {
      DustCart x = new DustCart();
      Due.row(x, 0, sort, 1, 2, 3, 4, 5);
      x.row(1, sort, 3);
      Due.is("shift", x.shift(0, 2, 1, 0, 3), 3);
      rowIs(x, 1, 3, 4, 5);
      Due.is("shift onward", x.shift(0, 0, 0, 1, 4), 4);
      rowIs(x, 0, 1, 1, 2, 3, 4);
      Due.is("shift back", x.shift(0, 2, 0, 0, 3), 3);
      rowIs(x, 0, 2, 3, 4, 3, 4);
      Due.is("shift in place", x.shift(0, 1, 0, 1, 2), 2);
      rowIs(x, 0, 2, 3, 4, 3, 4);
      Due.is("shift none at the end", x.shift(0, 5, 1, 3, 0), 0);
      rowIs(x, 1, 3, 4, 5);
    }
    DustCart y = new DustCart();
    Due.row(y, 0, 4, 1, 0, 1);
    Due.is("shift booleans", y.shift(0, 0, 0, 1, 2), 2);
    rowIs(y, 0, 1, 1, 0);
  }

  private static void rowIs(DustCart x, int shelf, int... due) {
    for (int i = 0; i < due.length; i++) Due.is("element " + i, x.element(shelf, i), due[i]);
  }

  private static void shiftRefused() {
    DustCart x = new DustCart();
    x.body(0);
    x.row(0, 0, 4);
    x.row(1, 0, 3);
    x.row(2, 1, 4);
    x.keep(3, 0);
    Due.is("shift shelf", x.shift(6, 0, 0, 0, 1), -1);
    Due.is("shift shelf", x.shift(0, 0, -1, 0, 1), -1);
    Due.is("shift shelf ahead of nothing", x.shift(4, 0, 6, 0, 1), -1);
    Due.is("shift nothing", x.shift(4, 0, 0, 0, 1), -11);
    Due.is("shift nothing", x.shift(0, 0, 4, 0, 1), -11);
    Due.is("shift nothing ahead of a body", x.shift(3, 0, 4, 0, -1), -11);
    Due.is("shift unlike", x.shift(0, 0, 2, 0, 1), -12);
    Due.is("shift body", x.shift(3, 0, 0, 0, 1), -12);
    Due.is("shift body", x.shift(0, 0, 3, 0, -1), -12);
    Due.is("shift body", x.shift(3, 0, 3, 0, 0), -12);
    Due.is("shift none below", x.shift(0, 0, 1, 0, -1), -13);
    Due.is("shift too far", x.shift(0, 0, 1, 0, 4), -13);
    Due.is("shift too far", x.shift(1, 0, 0, 0, 4), -13);
    Due.is("shift too far", x.shift(0, 2, 1, 0, 3), -13);
    Due.is("shift too far", x.shift(0, 0, 1, 2, 2), -13);
    Due.is("shift none too far", x.shift(0, 5, 1, 0, 0), -13);
    Due.is("shift none too far", x.shift(0, 0, 1, 4, 0), -13);
    Due.is("shift ahead", x.shift(0, -1, 1, 0, 1), -13);
    Due.is("shift ahead", x.shift(0, 0, 1, -1, 1), -13);
    Due.is("shift wraps", x.shift(0, 1, 1, 0, Integer.MAX_VALUE), -13);
    Due.is("shift wraps", x.shift(0, Integer.MAX_VALUE, 1, 0, 1), -13);
  }

  private static void taken() {
    int[] above = {-1, 0, 0, 2, 1, 3, 0, 6};
    DustCart x = new DustCart();
    for (int kind = 0; kind < 8; kind++) {
      x.body(kind);
      x.keep(0, kind);
      for (int k = 0; k < 8; k++) {
        boolean under = false;
        for (int up = kind; up >= 0; up = above[up]) under |= up == k;
        Due.is("taken " + kind + " for " + k, x.taken(0, k), under ? kind : -12);
      }
    }
    Due.is("taken bad", x.taken(0, 8), -1);
    Due.is("taken bad", x.taken(0, -1), -1);
    Due.is("taken bad ahead of nothing", x.taken(1, 8), -1);
    Due.is("taken nothing", x.taken(1, 0), -11);
    x.row(1, 0, 3);
    Due.is("taken row", x.taken(1, 0), -12);
  }

  private static void count() {
    DustCart x = new DustCart();
    x.mend(0, 1, 1);
    x.mend(35, 1, 1);
    x.mend(35, 1, 1);
    Due.is("stones", x.count(0), 2);
    x.day(5);
    Due.is("stones looked at", x.count(0), 2);
    x.mend(0, 1, 0);
    Due.is("stones", x.count(0), 1);
    Due.heights(x, 0, 1, 0, 1, 2, 1, 1);
    x.mend(8, 0, 1);
    Due.is("hollows", x.count(1), 2);
    x.mend(14, 0, 1);
    Due.is("hollows", x.count(1), 2);
    // three of stones, five of heights told, and two more; what stays the same is no change
    Due.is("changes", x.count(3), 3 + 5 + 2);
    x.undo();
    Due.is("changes", x.count(3), 9);
    x.feed('s');
    Due.is("tape", x.count(2), 1);
    x.law();
    Due.is("tape", x.count(2), 0);
    x.body(3);
    Due.is("bodies", x.count(4), 1);
    x.act(0, 3, 1);
    Due.is("ran", x.count(5), 7);
    Due.is("count bad", x.count(6), -1);
    Due.is("count bad", x.count(-1), -1);
  }
}
