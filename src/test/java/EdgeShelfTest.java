/** Promises 27 to 36: each sentence that names a boundary, one test each. */
public final class EdgeShelfTest {
  private static final int MIN = Integer.MIN_VALUE, MAX = Integer.MAX_VALUE;
  private static final int TURNS = 0, MOVES = 1, LOOKS = 2, TELLS = 3;
  private static final long NONE = Long.MIN_VALUE;
  private static final int[] ABOVE = {-1, 0, 0, 2, 1, 3, 0, 6};

  public static void main(String[] args) {
    bodyKinds();
    bodyFull();
    actNone();
    actWraps();
    actNumber();
    traceNone();
    traceLongest();
    keepBodies();
    rowSorts();
    rowSizes();
    rowAnew();
    putPlaces();
    putLowestBits();
    elementRefused();
    shiftMany();
    shiftOverItself();
    shiftPlaces();
    shiftRefused();
    takenKinds();
    takenRefused();
    countWhats();
    countBounds();
    Due.end("EdgeShelfTest");
  }

  private static void bodyKinds() {
    Due.sentence(27, "a KIND (0 .. 7); BAD");
    DustCart x = new DustCart();
    for (int kind : new int[] {-1, 8, MIN, MAX}) Due.is("body " + kind, x.body(kind), -1);
    Due.is("none is kept", x.count(4), 0);
    Due.is("body 0", x.body(0), 0);
    Due.is("body 7", x.body(7), 1);
  }

  private static DustCart fullOfBodies() {
    DustCart x = new DustCart();
    for (int n = 0; n < 50; n++) Due.is("body", x.body(n % 8), n);
    return x;
  }

  private static void bodyFull() {
    Due.sentence(27, "BODIES 0 .. 49; FULL");
    DustCart x = fullOfBodies();
    Due.is("one more", x.body(0), -3);
    Due.is("once more", x.body(7), -3);
    Due.is("count", x.count(4), 50);
    Due.is("the last acts", x.act(49, LOOKS, 0), 49);
    Due.is("no body behind it", x.act(50, LOOKS, 0), 0);
    Due.is("keep the last", x.keep(0, 49), 1);
    Due.is("its kind", x.taken(0, 0), 1);
    Due.is("keep none behind it", x.keep(0, 50), -1);
    Due.sentence(27, "BAD ahead of FULL");
    Due.is("body 8", x.body(8), -1);
    Due.is("body -1", x.body(-1), -1);
  }

  private static void actNone() {
    DustCart x = new DustCart();
    x.body(7);
    x.body(5);
    Due.sentence(28, "0, and no TRACE then: no such BODY");
    for (int body : new int[] {2, -1, 49, 50, MIN, MAX}) noTrace(x, body, TELLS);
    noTrace(new DustCart(), 0, TURNS);
    Due.sentence(28, "0, and no TRACE then: no such ACT");
    for (int act : new int[] {4, -1, 8, MIN, MAX}) noTrace(x, 1, act);
  }

  private static void noTrace(DustCart x, int body, int act) {
    x.act(0, TELLS, 3);
    Due.is("act(" + body + ", " + act + ")", x.act(body, act, 3), 0);
    Due.is("trace", x.trace(0), -1);
    Due.is("count", x.count(5), 0);
  }

  private static void actWraps() {
    Due.sentence(28, "x (an int that wraps)");
    DustCart x = new DustCart();
    for (int kind = 0; kind < 8; kind++) x.body(kind);
    Due.is("turns of 1: x + n + 3", x.act(1, TURNS, MAX), MIN + 3);
    Due.is("turns of 0 by the least", x.act(0, TURNS, MIN), MIN);
    Due.is("turns of 6: (x + n) * 2", x.act(6, TURNS, MAX), 10);
    Due.is("turns of 7: (x + n) * 2 - 1", x.act(7, TURNS, MIN), 13);
    Due.is("moves of 0: x * 2", x.act(0, MOVES, MIN), 0);
    Due.is("moves of 0: x * 2", x.act(0, MOVES, MAX), -2);
    Due.is("moves of 2: -(x + n) * 2", x.act(2, MOVES, 1 << 30), -(MIN + 4));
    Due.is("the least int is its own -", x.act(2, MOVES, (1 << 30) - 2), MIN);
    Due.is("moves of 3: x + 1 wraps", x.act(3, MOVES, MAX), -(MIN + 3) * 2);
    Due.is("looks of 3: (x ^ n) * 3", x.act(3, LOOKS, MAX), (MAX - 3) * 3);
    Due.is("looks of 5", x.act(5, LOOKS, MIN), ((MIN + 5) * 3) - 7);
    Due.is("tells of 4", x.act(4, TELLS, MAX), ((MAX + 7) * 2 - 5) ^ 5);
    Due.is("tells of 0: x * 2 - 1", x.act(0, TELLS, MIN), -1);
  }

  private static void actNumber() {
    Due.sentence(28, "n its number: of body 0, of body 49");
    DustCart x = fullOfBodies();
    Due.is("looks of 0", x.act(0, LOOKS, 7), 7);
    Due.is("looks of 48, a wheel", x.act(48, LOOKS, -1), ~48);
    Due.is("looks of 49, dragged", x.act(49, LOOKS, 0), 49);
    Due.is("turns of 48", x.act(48, TURNS, -48), 0);
  }

  private static void traceNone() {
    Due.sentence(29, "BAD: ahead of the first act(), behind the last body that ran, below 0");
    DustCart x = new DustCart();
    for (int i : new int[] {0, 1, -1, 23, 24, MIN, MAX}) Due.is("trace " + i, x.trace(i), -1);
    x.body(1);
    x.act(0, TURNS, 1);
    Due.is("trace 0", x.trace(0), 20);
    Due.is("trace 1", x.trace(1), 1);
    for (int i : new int[] {2, 3, -1, 23, 24, 25, MIN, MAX}) Due.is("trace " + i, x.trace(i), -1);
    Due.sentence(29, "the latest act() alone: a shorter one behind a longer one");
    x.act(0, TELLS, 1);
    Due.is("five ran", x.count(5), 5);
    x.act(0, LOOKS, 1);
    Due.is("trace 0", x.trace(0), 11);
    Due.is("trace 1", x.trace(1), -1);
    Due.is("one ran", x.count(5), 1);
  }

  private static void traceLongest() {
    Due.sentence(29, "the bodies that ran, as they began: the most that one act() lets run");
    DustCart x = new DustCart();
    x.body(5);
    x.act(0, TELLS, 5);
    int[] due = {61, 2, 41, 30, 10, 1, 60, 40, 11, 1};
    Due.is("count", x.count(5), due.length);
    for (int i = 0; i < due.length; i++) Due.is("trace " + i, x.trace(i), due[i]);
    Due.is("trace behind", x.trace(due.length), -1);
  }

  private static void keepBodies() {
    Due.sentence(30, "nothing (body -1), or a BODY; BAD");
    DustCart x = new DustCart();
    Due.is("no body yet", x.keep(0, 0), -1);
    Due.is("nothing", x.keep(0, -1), 1);
    x.body(4);
    Due.is("body 0", x.keep(0, 0), 1);
    for (int body : new int[] {1, -2, 49, 50, MIN, MAX}) Due.is("keep " + body, x.keep(0, body), -1);
    Due.is("it stays", x.taken(0, 4), 4);
    Due.sentence(30, "A SHELF 0 .. 5; BAD");
    for (int shelf : new int[] {-1, 6, MIN, MAX}) {
      Due.is("shelf " + shelf, x.keep(shelf, 0), -1);
      Due.is("shelf " + shelf, x.keep(shelf, -1), -1);
    }
    Due.is("the last shelf", x.keep(5, 0), 1);
    Due.sentence(30, "nothing: instead of a BODY, of a ROW");
    x.keep(0, -1);
    Due.is("put", x.put(0, 0, 1), -11);
    x.row(1, 0, 2);
    x.keep(1, -1);
    Due.is("put", x.put(1, 0, 1), -11);
    Due.is("taken", x.taken(1, 4), -11);
  }

  private static void rowSorts() {
    Due.sentence(31, "BAD (sort)");
    DustCart x = new DustCart();
    for (int sort : new int[] {-1, 5, MIN, MAX}) Due.is("sort " + sort, x.row(0, sort, 1), -1);
    Due.is("the shelf holds nothing", x.put(0, 0, 1), -11);
    for (int sort = 0; sort <= 4; sort++) Due.is("sort " + sort, x.row(sort, sort, 1), 1);
    Due.sentence(31, "A SHELF 0 .. 5; BAD");
    for (int shelf : new int[] {-1, 6, MIN, MAX}) Due.is("shelf " + shelf, x.row(shelf, 0, 1), -1);
    Due.is("the last shelf", x.row(5, 0, 1), 1);
  }

  private static void rowSizes() {
    for (int sort = 0; sort <= 4; sort++) {
      DustCart x = new DustCart();
      Due.sentence(31, "of 0 .. 60 elements, of sort " + sort + "; BAD (n above 60)");
      for (int n : new int[] {61, 100, MAX}) Due.is("n " + n, x.row(0, sort, n), -1);
      Due.is("nothing there", x.put(0, 0, 1), -11);
      Due.is("n 60", x.row(0, sort, 60), 1);
      Due.is("its last", x.put(0, 59, 1), 1);
      Due.is("behind it", x.put(0, 60, 1), -13);
      Due.is("n 1", x.row(0, sort, 1), 1);
      Due.is("its last", x.put(0, 0, 1), 1);
      Due.is("behind it", x.put(0, 1, 1), -13);
      Due.is("n 0", x.row(0, sort, 0), 1);
      Due.is("behind it", x.put(0, 0, 1), -13);
      Due.sentence(31, "-14 a size below 0, of sort " + sort);
      for (int n : new int[] {-1, -60, MIN}) Due.is("n " + n, x.row(0, sort, n), -14);
      Due.is("the row of none stays", x.put(0, 0, 1), -13);
    }
    Due.sentence(31, "BAD ahead of -14");
    DustCart x = new DustCart();
    Due.is("shelf", x.row(6, 0, -1), -1);
    Due.is("sort", x.row(0, 5, -1), -1);
    Due.is("sort", x.row(0, -1, MIN), -1);
  }

  private static void rowAnew() {
    Due.sentence(31, "0 at first (false): also where a row was");
    DustCart x = new DustCart();
    for (int sort = 0; sort <= 4; sort++) {
      for (int shelf = 0; shelf < 2; shelf++) {
        x.row(0, sort, 3);
        for (int i = 0; i < 3; i++) {
          Due.is("element " + i, x.element(0, i), 0);
          x.put(0, i, -1);
        }
      }
    }
    Due.is("a longer one", x.row(0, 3, 60), 1);
    for (int i = 0; i < 60; i++) Due.is("element " + i, x.element(0, i), 0);
    Due.sentence(31, "instead of a BODY");
    x.body(0);
    x.keep(1, 0);
    x.row(1, 2, 1);
    Due.is("element", x.element(1, 0), 0);
    Due.is("taken", x.taken(1, 0), -12);
  }

  /** On shelf 0 nothing, on shelf 1 a body, on shelf 2 a row of three ints. */
  private static DustCart shelved() {
    DustCart x = new DustCart();
    x.body(0);
    x.keep(1, 0);
    Due.row(x, 2, 2, 7, 8, 9);
    return x;
  }

  private static void putPlaces() {
    DustCart x = shelved();
    Due.sentence(32, "BAD: no such SHELF");
    for (int shelf : new int[] {-1, 6, MIN, MAX}) Due.is("put on " + shelf, x.put(shelf, 0, 1), -1);
    Due.sentence(32, "-11 nothing is there where something is wanted");
    for (int i : new int[] {0, -1, 60}) Due.is("put at " + i, x.put(0, i, 1), -11);
    Due.sentence(32, "-12 it is of another kind");
    for (int i : new int[] {0, -1, 60}) Due.is("put at " + i, x.put(1, i, 1), -12);
    Due.sentence(32, "-13 a place that is not there");
    for (int i : new int[] {-1, 3, 4, 59, 60, MIN, MAX}) Due.is("put at " + i, x.put(2, i, 1), -13);
    Due.is("the first", x.put(2, 0, 4), 1);
    Due.is("the last", x.put(2, 2, 5), 1);
    Due.is("all three", x.element(2, 0) * 100 + x.element(2, 1) * 10 + x.element(2, 2), 485);
  }

  private static void putLowestBits() {
    long[][] puts = {
      {127, 128, -128, -129, 255, 256, 257, -1, Long.MAX_VALUE, Long.MIN_VALUE},
      {32767, 32768, -32768, -32769, 65535, 65536, 65537, -1, Long.MAX_VALUE, Long.MIN_VALUE},
      {MAX, MAX + 1L, MIN, MIN - 1L, (1L << 32) - 1, 1L << 32, (1L << 32) + 1, -1, Long.MAX_VALUE, Long.MIN_VALUE},
      {Long.MAX_VALUE, Long.MIN_VALUE, 1L << 32, -1, 0, 1, -11, -12, -13, MIN - 1L},
      {0, 1, -1, 2, 256, 65536, 1L << 32, 1L << 63, Long.MAX_VALUE, Long.MIN_VALUE}};
    long[][] due = {
      {127, -128, -128, 127, -1, 0, 1, -1, -1, 0},
      {32767, -32768, -32768, 32767, -1, 0, 1, -1, -1, 0},
      {MAX, MIN, MIN, MAX, -1, 0, 1, -1, -1, 0},
      {Long.MAX_VALUE, Long.MIN_VALUE, 1L << 32, -1, 0, 1, -11, -12, -13, MIN - 1L},
      {0, 1, 1, 1, 1, 1, 1, 1, 1, 1}};
    for (int sort = 0; sort <= 4; sort++) {
      Due.sentence(32, "what is put in keeps its lowest bits (a boolean: whether it is not 0), sort " + sort);
      DustCart x = new DustCart();
      x.row(0, sort, 10);
      for (int i = 0; i < 10; i++) Due.is("put " + puts[sort][i], x.put(0, i, puts[sort][i]), 1);
      for (int i = 0; i < 10; i++) Due.is("of " + puts[sort][i], x.element(0, i), due[sort][i]);
    }
  }

  private static void elementRefused() {
    DustCart x = shelved();
    Due.sentence(33, "Long.MIN_VALUE: BAD");
    for (int shelf : new int[] {-1, 6, MIN, MAX}) Due.is("element on " + shelf, x.element(shelf, 0), NONE);
    Due.sentence(33, "Long.MIN_VALUE: -11");
    Due.is("of nothing", x.element(0, 0), NONE);
    Due.sentence(33, "Long.MIN_VALUE: -12");
    Due.is("of a body", x.element(1, 0), NONE);
    Due.sentence(33, "Long.MIN_VALUE: -13");
    for (int i : new int[] {-1, 3, 59, 60, MIN, MAX}) Due.is("at " + i, x.element(2, i), NONE);
    Due.is("the first", x.element(2, 0), 7);
    Due.is("the last", x.element(2, 2), 9);
    x.row(3, 0, 0);
    Due.is("of a row of none", x.element(3, 0), NONE);
  }

  private static void shiftMany() {
    Due.sentence(34, "n elements: none of them");
    DustCart x = new DustCart();
    Due.row(x, 0, 1, 1, 2, 3);
    Due.row(x, 1, 1, 4, 5);
    for (int i = 0; i <= 3; i++) {
      for (int j = 0; j <= 2; j++) Due.is("from " + i + " to " + j, x.shift(0, i, 1, j, 0), 0);
    }
    Due.is("as it was", x.element(1, 0) * 10 + x.element(1, 1), 45);
    x.row(2, 1, 0);
    Due.is("a row of none", x.shift(2, 0, 2, 0, 0), 0);
    Due.sentence(34, "n elements: all of 60");
    x.row(3, 3, 60);
    x.row(4, 3, 60);
    for (int i = 0; i < 60; i++) x.put(3, i, -i);
    Due.is("shift", x.shift(3, 0, 4, 0, 60), 60);
    for (int i = 0; i < 60; i++) Due.is("element " + i, x.element(4, i), -i);
    Due.is("shift one more", x.shift(3, 0, 4, 0, 61), -13);
  }

  private static void shiftOverItself() {
    Due.sentence(34, "(or the same) from j on, as they all were before");
    int[][] due = {{1, 1, 2, 3, 4}, {1, 2, 1, 2, 3}, {2, 3, 4, 5, 5}, {3, 4, 5, 4, 5}, {1, 2, 3, 4, 5}};
    int[][] from = {{0, 1, 4}, {0, 2, 3}, {1, 0, 4}, {2, 0, 3}, {0, 0, 5}};
    for (int sort = 0; sort <= 3; sort++) {
      for (int n = 0; n < from.length; n++) {
        DustCart x = new DustCart();
        Due.row(x, 0, sort, 1, 2, 3, 4, 5);
        Due.is("shift", x.shift(0, from[n][0], 0, from[n][1], from[n][2]), from[n][2]);
        for (int i = 0; i < 5; i++) Due.is("element " + i, x.element(0, i), due[n][i]);
      }
    }
    DustCart y = new DustCart();
    Due.row(y, 0, 4, 1, 0, 0, 1);
    Due.is("shift booleans", y.shift(0, 0, 0, 1, 3), 3);
    Due.is("elements", y.element(0, 0) * 1000 + y.element(0, 1) * 100 + y.element(0, 2) * 10 + y.element(0, 3), 1100);
  }

  private static void shiftPlaces() {
    DustCart x = new DustCart();
    Due.row(x, 0, 0, 1, 2, 3, 4);
    Due.row(x, 1, 0, 5, 6, 7);
    Due.sentence(34, "-13 (n below 0, too)");
    for (int n : new int[] {-1, -60, MIN}) {
      Due.is("n " + n, x.shift(0, 0, 1, 0, n), -13);
      Due.is("n " + n, x.shift(0, 4, 1, 3, n), -13);
    }
    Due.sentence(34, "-13 a place that is not there, of the one");
    int[][] one = {{-1, 0, 1}, {-1, 0, 0}, {4, 0, 1}, {5, 0, 0}, {2, 0, 3}, {MIN, 0, 1}, {MAX, 0, 1}, {1, 0, MAX}, {MAX, 0, MAX}};
    for (int[] p : one) Due.is("from " + p[0] + " n " + p[2], x.shift(0, p[0], 1, p[1], p[2]), -13);
    Due.sentence(34, "-13 a place that is not there, of the other");
    int[][] other = {{0, -1, 1}, {0, -1, 0}, {0, 3, 1}, {0, 4, 0}, {0, 2, 2}, {0, 0, 4}, {0, MIN, 1}, {0, MAX, 1}, {0, MAX, 4}};
    for (int[] p : other) Due.is("to " + p[1] + " n " + p[2], x.shift(0, p[0], 1, p[1], p[2]), -13);
    Due.is("as it was", x.element(1, 0) * 100 + x.element(1, 1) * 10 + x.element(1, 2), 567);
    Due.sentence(34, "the last places that are there");
    Due.is("all of the shorter", x.shift(0, 1, 1, 0, 3), 3);
    Due.is("came", x.element(1, 0) * 100 + x.element(1, 1) * 10 + x.element(1, 2), 234);
    Due.is("the last to the last", x.shift(0, 0, 1, 2, 1), 1);
    Due.is("came", x.element(1, 2), 1);
  }

  private static void shiftRefused() {
    DustCart x = shelved();
    for (int sort = 0; sort <= 4; sort++) x.row(sort == 2 ? 2 : 3, sort, 3);
    Due.sentence(34, "BAD: no such SHELF, either");
    for (int bad : new int[] {-1, 6, MIN, MAX}) {
      Due.is("from " + bad, x.shift(bad, 0, 2, 0, 1), -1);
      Due.is("to " + bad, x.shift(2, 0, bad, 0, 1), -1);
      Due.is("ahead of -11", x.shift(0, 0, bad, 0, 1), -1);
      Due.is("ahead of -11", x.shift(bad, 0, 0, 0, 1), -1);
    }
    Due.sentence(34, "-11 (either)");
    Due.is("from nothing", x.shift(0, 0, 2, 0, 1), -11);
    Due.is("to nothing", x.shift(2, 0, 0, 0, 1), -11);
    Due.is("both", x.shift(0, 0, 0, 0, 0), -11);
    Due.is("ahead of -12", x.shift(1, 0, 0, 0, 1), -11);
    Due.is("ahead of -12", x.shift(0, 0, 1, 0, 1), -11);
    Due.is("ahead of -13", x.shift(2, 0, 0, 0, -1), -11);
    Due.sentence(34, "-12 (no ROWS)");
    Due.is("from a body", x.shift(1, 0, 2, 0, 1), -12);
    Due.is("to a body", x.shift(2, 0, 1, 0, 1), -12);
    Due.is("both", x.shift(1, 0, 1, 0, 0), -12);
    Due.is("ahead of -13", x.shift(1, 0, 2, 0, -1), -12);
    Due.sentence(34, "-12 (of unlike sorts)");
    for (int sort = 0; sort <= 4; sort++) {
      for (int other = 0; other <= 4; other++) {
        x.row(3, sort, 2);
        x.row(4, other, 2);
        Due.is("from " + sort + " to " + other, x.shift(3, 0, 4, 0, 1), sort == other ? 1 : -12);
        Due.is("ahead of -13", x.shift(3, 0, 4, 0, 3), sort == other ? -13 : -12);
        Due.is("none", x.shift(3, 0, 4, 0, 0), sort == other ? 0 : -12);
      }
    }
  }

  private static void takenKinds() {
    Due.sentence(35, "taken for a BODY of KIND k, or under it: its KIND; -12");
    DustCart x = new DustCart();
    for (int kind = 0; kind <= 7; kind++) {
      x.body(kind);
      x.keep(0, kind);
      for (int k = 0; k <= 7; k++) {
        boolean under = false;
        for (int up = kind; up >= 0; up = ABOVE[up]) under |= up == k;
        Due.is("kind " + kind + " for " + k, x.taken(0, k), under ? kind : -12);
      }
    }
  }

  private static void takenRefused() {
    DustCart x = shelved();
    Due.sentence(35, "KIND k (0 .. 7); BAD");
    for (int k : new int[] {-1, 8, MIN, MAX}) {
      Due.is("for " + k, x.taken(1, k), -1);
      Due.is("ahead of -11", x.taken(0, k), -1);
      Due.is("ahead of -12", x.taken(2, k), -1);
    }
    Due.sentence(35, "BAD: no such SHELF");
    for (int shelf : new int[] {-1, 6, MIN, MAX}) Due.is("of " + shelf, x.taken(shelf, 0), -1);
    Due.sentence(35, "-11 nothing is there");
    for (int k = 0; k <= 7; k++) Due.is("for " + k, x.taken(0, k), -11);
    Due.sentence(35, "-12 a ROW is there");
    for (int k = 0; k <= 7; k++) Due.is("for " + k, x.taken(2, k), -12);
  }

  private static void countWhats() {
    Due.sentence(36, "what 0 .. 5; BAD");
    DustCart x = new DustCart();
    for (int what : new int[] {-1, 6, 7, MIN, MAX}) Due.is("count " + what, x.count(what), -1);
    for (int what = 0; what <= 5; what++) Due.is("count " + what, x.count(what), 0);
  }

  private static void countBounds() {
    Due.sentence(36, "0 STONES: all CELLS, LOOKED AT or not");
    DustCart x = new DustCart();
    for (int cell = 0; cell < 36; cell++) x.mend(cell, 1, 1);
    Due.is("all", x.count(0), 36);
    x.day(5);
    Due.is("one looked at", x.count(0), 36);
    for (int cell = 0; cell < 36; cell++) x.mend(cell, 1, 0);
    Due.is("none", x.count(0), 0);
    Due.sentence(36, "1 HOLLOWS: half of THE PLAIN at most");
    Due.is("none on the flat", x.count(1), 0);
    for (int cell = 0; cell < 36; cell++) x.mend(cell, 0, (cell / 6 + cell % 6) % 2);
    Due.is("as many as can be", x.count(1), 18);
    Due.sentence(36, "3 changes that may be UNDONE: 40 at most");
    Due.is("kept", x.count(3), 40);
    for (int n = 0; n < 40; n++) x.undo();
    Due.is("all undone", x.count(3), 0);
    Due.sentence(36, "2 bytes on THE TAPE: 120 at most");
    Due.tape(x, "s".repeat(121));
    Due.is("full", x.count(2), 120);
    x.law();
    Due.is("empty", x.count(2), 0);
    Due.sentence(36, "4 BODIES: 50 at most");
    DustCart y = fullOfBodies();
    y.body(0);
    Due.is("full", y.count(4), 50);
    Due.sentence(36, "5 bodies that ran in the latest act(): none behind a refused one");
    y.act(5, TELLS, 1);
    Due.is("ran", y.count(5), 10);
    y.act(50, TELLS, 1);
    Due.is("none", y.count(5), 0);
  }
}
