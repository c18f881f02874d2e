import java.util.function.Supplier;
import java.util.function.ToLongFunction;

/** "What is answered so changes nothing", each kind of refused call on a new object; and what thought leaves as it is. */
public final class RefusedTest {
  private static final int BAD = -1, NOT = -2, FULL = -3, STATE = -5, NOTHING = -11, KIND = -12, PLACE = -13, SIZE = -14;
  private static final int MAX = Integer.MAX_VALUE;
  private static final long NONE = Long.MIN_VALUE;

  private static Supplier<DustCart> maker;
  private static String before;

  public static void main(String[] args) {
    on(RefusedTest::used);
    badNumbers();
    badInThought();
    badShelves();
    refusedShelves();
    notThere();
    askedAlone();
    on(DustCart::new);
    onABarePlain();
    on(RefusedTest::full);
    atTheEnd();
    Due.end("RefusedTest");
  }

  /** Some of all: changes (one undone), days, an image, a law, a tape begun, bodies, a trace, shelves. */
  private static DustCart used() {
    DustCart x = new DustCart();
    for (int cell = 1; cell <= 3; cell++) x.mend(cell, 0, cell);
    x.mend(0, 1, 1);
    x.mend(0, 5, 7);
    x.undo();
    x.day(5);
    x.image();
    x.day(2);
    Due.law(x, "o?5;3");
    Due.tape(x, "s+1");
    x.body(0);
    x.body(5);
    x.act(1, 3, 4);
    Due.bytes(x, 0, 2, 1, 5);
    Due.row(x, 1, 3, 7, 8);
    x.keep(2, 1);
    x.row(4, 0, 0);
    return x;
  }

  /** All days were, THE TAPE and BODIES are full, forty CHANGES are kept. */
  private static DustCart full() {
    DustCart x = new DustCart();
    for (int day = 0; day < 35; day++) x.mend(day, 3, 9);
    for (int cell = 0; cell < 6; cell++) x.mend(cell, 1, 1);
    Due.law(x, "0");
    x.days(60);
    Due.tape(x, "1+".repeat(60));
    for (int n = 0; n < 50; n++) x.body(n % 8);
    Due.bytes(x, 0, 2, 1, 5);
    return x;
  }

  private static void on(Supplier<DustCart> how) {
    maker = how;
    before = told(how.get());
  }

  private static void is(String call, long want, ToLongFunction<DustCart> called) {
    DustCart x = maker.get();
    Due.is(call, called.applyAsLong(x), want);
    Due.holds(call + " changed nothing", told(x).equals(before));
  }

  /** All that an object tells: first by calls that change nothing, then by those that bring to light what is kept. */
  private static String told(DustCart x) {
    StringBuilder t = new StringBuilder();
    for (int cell = 0; cell < 36; cell++) t.append(x.of(cell, 0)).append(x.of(cell, 1));
    for (int cell = 0; cell < 4; cell++) t.append(x.of(cell, 11));
    for (int day = 0; day < 60; day++) t.append(' ').append(x.of(day, 2)).append(x.of(day, 3));
    t.append(" wheels ").append(x.of(0, 4)).append(" odds ").append(x.of(0, 5)).append(" cart ").append(Due.cart(x));
    for (int what = 0; what <= 5; what++) t.append(" count ").append(x.count(what));
    for (int day : new int[] {0, 1, 2, 59}) t.append(" led ").append(x.led(day, 0)).append(x.led(day, 1));
    for (int i = 0; i <= 10; i++) t.append(" ran ").append(x.trace(i));
    for (int shelf = 0; shelf < 6; shelf++) {
      t.append(" shelf ").append(x.taken(shelf, 0));
      for (int i = 0; i < 4; i++) t.append(' ').append(x.element(shelf, i));
    }
    t.append(" order ").append(x.order()).append(" law ").append(x.law()).append(" order ").append(x.order());
    t.append(" back ").append(x.back()).append(' ').append(Due.cart(x)).append(" order ").append(x.order());
    for (int n = 0; n < 2; n++) t.append(" redo ").append(x.redo());
    t.append(" odds ").append(x.of(0, 5));
    for (int n = 0; n < 6; n++) t.append(" undo ").append(x.undo());
    for (int cell = 0; cell < 4; cell++) t.append(' ').append(x.of(cell, 0)).append(x.of(cell, 1));
    return t.toString();
  }

  private static void badNumbers() {
    Due.sentence(0, "BAD changes nothing");
    is("mend number", BAD, x -> x.mend(36, 0, 1));
    is("mend what", BAD, x -> x.mend(0, 6, 1));
    is("mend value", BAD, x -> x.mend(0, 0, 10));
    is("of", BAD, x -> x.of(0, 6));
    is("heights n", BAD, x -> x.heights(0, 0, 37));
    is("heights cell", BAD, x -> x.heights(0, 0, 3601));
    is("heights shelf", BAD, x -> x.heights(6, 0, 1));
    is("feed low", BAD, x -> x.feed(-1));
    is("feed high", BAD, x -> x.feed(256));
    is("cost", BAD, x -> x.cost(36, 1));
    is("day low", BAD, x -> x.day(-1));
    is("day high", BAD, x -> x.day(6));
    is("days none", BAD, x -> x.days(0));
    is("days too many", BAD, x -> x.days(61));
    is("led", BAD, x -> x.led(2, 0));
    is("body low", BAD, x -> x.body(-1));
    is("body high", BAD, x -> x.body(8));
    is("trace", BAD, x -> x.trace(10));
    is("count", BAD, x -> x.count(6));
  }

  private static void badInThought() {
    Due.sentence(0, "BAD in thought changes nothing");
    is("run k", BAD, x -> x.run(0, -1, 0));
    is("run what", BAD, x -> x.run(0, 1, 4));
    is("first", BAD, x -> x.first(6));
    is("lawful k", BAD, x -> x.lawful(61, 0));
    is("lawful what", BAD, x -> x.lawful(1, 4));
    is("cheapest", BAD, x -> x.cheapest(36, 0));
    is("soonest", BAD, x -> x.soonest(36, 0));
    is("round", BAD, x -> x.round(2));
    is("lasts", BAD, x -> x.lasts(21));
    is("clean", NONE, x -> x.clean(9, 0, 0));
    is("line", NONE, x -> x.line(0, 2));
    is("drawn n", BAD, x -> x.drawn(1, 31, 0));
    is("drawn what", BAD, x -> x.drawn(1, 1, 2));
    is("judge", BAD, x -> x.judge(6));
  }

  private static void badShelves() {
    Due.sentence(0, "BAD of shelves changes nothing");
    is("keep body", BAD, x -> x.keep(0, 2));
    is("keep below -1", BAD, x -> x.keep(0, -2));
    is("keep shelf", BAD, x -> x.keep(6, -1));
    is("row sort", BAD, x -> x.row(0, 5, 1));
    is("row n", BAD, x -> x.row(0, 0, 61));
    is("row shelf", BAD, x -> x.row(6, 0, 1));
    is("put", BAD, x -> x.put(6, 0, 1));
    is("element", NONE, x -> x.element(6, 0));
    is("shift from", BAD, x -> x.shift(6, 0, 0, 0, 1));
    is("shift to", BAD, x -> x.shift(0, 0, 6, 0, 1));
    is("taken", BAD, x -> x.taken(0, 8));
  }

  private static void refusedShelves() {
    Due.sentence(0, "-11 to -14 change nothing");
    is("heights of longs", KIND, x -> x.heights(1, 0, 1));
    is("heights of a body", KIND, x -> x.heights(2, 0, 1));
    is("run of nothing", NOTHING, x -> x.run(3, 0, 0));
    is("run of longs", KIND, x -> x.run(1, 0, 0));
    is("first of nothing", NOTHING, x -> x.first(3));
    is("first of a body", KIND, x -> x.first(2));
    is("judge of nothing", NOTHING, x -> x.judge(3));
    is("judge of longs", KIND, x -> x.judge(1));
    is("line of nothing", NONE, x -> x.line(3, 0));
    is("line of longs", NONE, x -> x.line(1, 0));
    is("row below 0", SIZE, x -> x.row(0, 0, -1));
    is("put on nothing", NOTHING, x -> x.put(3, 0, 1));
    is("put on a body", KIND, x -> x.put(2, 0, 1));
    is("put behind", PLACE, x -> x.put(0, 3, 1));
    is("put ahead", PLACE, x -> x.put(0, -1, 1));
    is("put on none", PLACE, x -> x.put(4, 0, 1));
    is("element of nothing", NONE, x -> x.element(3, 0));
    is("element of a body", NONE, x -> x.element(2, 0));
    is("element behind", NONE, x -> x.element(0, 3));
    is("shift from nothing", NOTHING, x -> x.shift(3, 0, 0, 0, 1));
    is("shift to nothing", NOTHING, x -> x.shift(0, 0, 3, 0, 1));
    is("shift to a body", KIND, x -> x.shift(0, 0, 2, 0, 1));
    is("shift to longs", KIND, x -> x.shift(0, 0, 1, 0, 1));
    is("shift too many", PLACE, x -> x.shift(0, 0, 0, 1, 3));
    is("shift too far", PLACE, x -> x.shift(1, 1, 1, 0, 2));
    is("shift below 0", PLACE, x -> x.shift(1, 1, 1, 0, -1));
    is("shift to none", PLACE, x -> x.shift(0, 0, 4, 0, 1));
    is("taken of nothing", NOTHING, x -> x.taken(3, 0));
    is("taken of a row", KIND, x -> x.taken(0, 0));
    is("taken of another", KIND, x -> x.taken(2, 1));
  }

  private static void notThere() {
    Due.sentence(0, "NOT and STATE change nothing");
    is("cost", NOT, x -> x.cost(0, 1));
    is("cheapest", NOT, x -> x.cheapest(303, 1));
    is("run too long", STATE, x -> x.run(0, 4, 0));
    is("first", 1, x -> x.first(0));
    is("first of none", NOT, x -> x.first(4));
    is("judge of none", NOT, x -> x.judge(4));
    is("lasts", NOT, x -> x.lasts(0));
    is("round", NOT, x -> x.round(1));
    is("lawful too many", STATE, x -> x.lawful(59, 0));
    is("days too many", STATE, x -> x.days(59));
    Due.sentence(0, "what comes as none, or as it was, changes nothing");
    is("heights from no place", 0, x -> x.heights(0, 3, 1));
    is("heights from nothing", 0, x -> x.heights(3, 0, 1));
    is("mend to the same", 2, x -> x.mend(2, 0, 2));
    is("put of the same", 1, x -> x.put(0, 0, 2));
    is("shift of none", 0, x -> x.shift(0, 0, 0, 1, 0));
    is("a law is asked for, none of it changed", 3, x -> x.order());
  }

  private static void askedAlone() {
    Due.sentence(0, "In thought, and what only asks, changes nothing");
    is("run", 4, x -> x.run(0, 3, 2) + x.run(0, 2, 0));
    is("lawful", 31, x -> x.lawful(58, 0));
    is("soonest", 2, x -> x.soonest(3, 0));
    is("cheapest", 3, x -> x.cheapest(100, 0));
    is("round", 0, x -> x.round(0));
    is("lasts", 14, x -> x.lasts(20));
    is("clean", 11, x -> x.clean(2, 0, 0));
    is("line", 0, x -> x.line(0, 0));
    is("drawn", 99, x -> x.drawn(3, 1, 1));
    is("judge", 0, x -> x.judge(0));
    is("element", 8, x -> x.element(1, 1));
    is("taken", 5, x -> x.taken(2, 2));
  }

  private static void onABarePlain() {
    Due.sentence(0, "on a bare plain: STATE, -11, BAD, 0 change nothing");
    is("undo", STATE, x -> x.undo());
    is("redo", STATE, x -> x.redo());
    is("back", STATE, x -> x.back());
    is("led", BAD, x -> x.led(0, 0));
    is("trace", BAD, x -> x.trace(0));
    is("keep", BAD, x -> x.keep(0, 0));
    is("act", 0, x -> x.act(0, 0, MAX));
    is("run", NOTHING, x -> x.run(0, 0, 0));
    is("heights", 0, x -> x.heights(0, -1, 1));
    is("law of nothing", -100, x -> x.law());
    is("keep nothing", 1, x -> x.keep(0, -1));
    is("mend to the same", 8, x -> x.mend(59, 2, 8));
  }

  private static void atTheEnd() {
    Due.sentence(0, "at the end, all full: STATE, FULL, NOT change nothing");
    is("day", STATE, x -> x.day(0));
    is("days", STATE, x -> x.days(1));
    is("order", STATE, x -> x.order());
    is("run", STATE, x -> x.run(0, 1, 0));
    is("first", NOT, x -> x.first(0));
    is("judge", NOT, x -> x.judge(0));
    is("lawful", STATE, x -> x.lawful(1, 0));
    is("soonest", NOT, x -> x.soonest(35, 0));
    is("round by six", STATE, x -> x.round(0));
    is("lasts", NOT, x -> x.lasts(20));
    is("feed", FULL, x -> x.feed('1'));
    is("body", FULL, x -> x.body(0));
    is("back", STATE, x -> x.back());
    is("redo", STATE, x -> x.redo());
    is("drawn", 99, x -> x.drawn(1, 1, 1));
  }
}
