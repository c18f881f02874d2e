import java.util.Random;

/** Drawn calls with drawn numbers: none throws, refused ones change nothing, the same ones answer the same. */
public final class AnyCallTest {
  private static final int[] EDGES = {Integer.MIN_VALUE, -101, -2, -1, 0, 1, 2, 3, 4, 5, 6, 7, 8, 9, 10, 11, 12, 20, 21, 24,
    30, 31, 35, 36, 37, 40, 49, 50, 59, 60, 61, 100, 101, 120, 255, 256, 3535, 3536, 3600, Integer.MAX_VALUE};
  private static final String LETTERS = "suhdowc0123456789!-()|&<=>+*/%?;sss+++";

  public static void main(String[] args) {
    for (int seed = 0; seed < 400; seed++) {
      DustCart x = new DustCart();
      DustCart y = new DustCart();
      Random r = new Random(seed);
      Random s = new Random(seed);
      for (int n = 0; n < 400; n++) {
        int call = r.nextInt(36);
        s.nextInt(36);
        long before = print(x);
        long answer = call(x, call, r);
        Due.is("the same of " + call, call(y, call, s), answer);
        boolean refused = answer < 0 && answer >= -14 || answer == Long.MIN_VALUE;
        // acts answer any int
        if (refused && call != 27) Due.is("refused changes nothing, " + call, print(x), before);
      }
      Due.is("the same object", print(y), print(x));
    }
    Due.end("AnyCallTest");
  }

  /** All that an object tells of its state without a call that changes it. */
  private static long print(DustCart x) {
    long all = 7;
    for (int cell = 0; cell < 36; cell++) all = all * 31 + x.of(cell, 0) * 8 + x.of(cell, 1) * 4 + x.of(cell, 11);
    for (int day = 0; day < 60; day++) {
      all = all * 31 + x.of(day, 2) * 16 + x.of(day, 3);
      all = all * 31 + x.led(day, 0) * 8 + x.led(day, 1);
    }
    for (int what = 20; what <= 24; what++) all = all * 31 + x.of(0, what);
    for (int what = 0; what <= 5; what++) all = all * 31 + x.count(what);
    for (int shelf = 0; shelf < 6; shelf++) {
      all = all * 31 + x.taken(shelf, 0);
      for (int i = 0; i < 60; i++) all = all * 31 + x.element(shelf, i);
    }
    return all * 31 + x.order() + x.of(0, 4) * 100 + x.of(0, 5) * 1000;
  }

  private static int any(Random r, int usual) {
    int kind = r.nextInt(10);
    if (kind == 0) return r.nextInt();
    if (kind <= 2) return EDGES[r.nextInt(EDGES.length)];
    return r.nextInt(usual);
  }

  private static long call(DustCart x, int call, Random r) {
    switch (call) {
      case 1: return x.mend(any(r, 36), any(r, 6), any(r, 6));
      case 2: return x.of(any(r, 36), any(r, 25));
      case 3: return x.heights(any(r, 6), any(r, 60), any(r, 36) * 100 + any(r, 40));
      case 4: return letters(x, r);
      case 5: return x.law() < 0 ? -99 : 1;
      case 6: return x.cost(any(r, 36), any(r, 5));
      case 7: return x.order();
      case 8: return x.day(any(r, 6));
      case 9: return x.days(any(r, 9));
      case 10: return x.led(any(r, 60), any(r, 2));
      case 11: return x.run(any(r, 6), any(r, 20), any(r, 4));
      case 12: return x.first(any(r, 6));
      case 13: return x.lawful(any(r, 60), any(r, 4));
      case 14: return x.cheapest(any(r, 36) * 100 + any(r, 36), any(r, 2));
      case 15: return x.soonest(any(r, 36), any(r, 2));
      case 16: return x.round(any(r, 2));
      case 17: return x.lasts(any(r, 21));
      default: return furtherCall(x, call, r);
    }
  }

  private static long furtherCall(DustCart x, int call, Random r) {
    switch (call) {
      case 18: return x.clean(any(r, 9), any(r, 2), any(r, 2));
      case 19: return x.line(any(r, 6), any(r, 2));
      case 20: return x.drawn(r.nextInt(), any(r, 30), any(r, 2));
      case 21: return x.judge(any(r, 6));
      case 22: return x.image();
      case 23: return x.back();
      case 24: return x.undo();
      case 25: return x.redo();
      case 26: return x.body(any(r, 8));
      case 27: return x.act(any(r, 12), any(r, 4), any(r, 100));
      case 28: return x.trace(any(r, 10));
      case 29: return x.keep(any(r, 6), any(r, 9) - 1);
      case 30: return x.row(any(r, 6), r.nextBoolean() ? 0 : any(r, 5), any(r, 61));
      case 31: return x.put(any(r, 6), any(r, 40), any(r, 12));
      case 32: return x.element(any(r, 6), any(r, 40));
      case 33: return x.shift(any(r, 6), any(r, 20), any(r, 6), any(r, 20), any(r, 20));
      case 34: return x.taken(any(r, 6), any(r, 8));
      case 35: return x.count(any(r, 6));
      default: return 0;
    }
  }

  private static long letters(DustCart x, Random r) {
    long last = 0;
    for (int n = r.nextInt(9); n >= 0; n--) last = x.feed(LETTERS.charAt(r.nextInt(LETTERS.length())));
    return last == DustCart.FULL || last > 0 ? 1 : last;
  }
}
