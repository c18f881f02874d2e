import java.util.Random;

/** Drawn runs of at most 512 calls: every answer of the class beside that of the model of the whole document. */
public final class WholeTest {
  private static final int RUNS = 700, CALLS = 512, TELLING = 370;
  private static final int MIN = Integer.MIN_VALUE, MAX = Integer.MAX_VALUE;
  private static final int[] EDGES = {MIN, MIN + 1, -101, -2, -1, 0, 1, 5, 6, 7, 8, 9, 10, 12, 13, 20, 21, 24, 25, 30,
    31, 35, 36, 37, 40, 49, 50, 59, 60, 61, 100, 120, 127, 128, 255, 256, 3535, 3536, 3599, 3600, MAX - 1, MAX};
  private static final String SIGNS = "suhdowc0123456789!-()|&<=>+*/%?;";
  private static final String[] TEXTS = {"o?5;s>40?2;3", "d%5", "1", "2", "3", "4", "5", "o?5;1+d%4", "o?5;c%6<5?2;3",
    "-s", "s*u", "(s>20)&!o|w>6?d%6;5", "h<3?2;h=3?3;o*5", "c/6", "w", "!!!!!!o*5", "((((((s))))))", "9999*9999*9999",
    "0?1", "s-s/0", "((((((!s))))))", "-------s", "12345", "s<u<d", "1?2?3", "s+", "(s", "", ";", "o?5;;1", "s s",
    "o+(s>9)*2", "(1&s)+(w=3)+!w", "(s|0)*4+(u<2)", "s%0+s/0+4", "!!s*3+!s", "c%5+o*o", "0?1;".repeat(29) + "!!!0",
    "0?1;".repeat(29) + "!!!!0", "!0" + ";3".repeat(59), "2" + "+1".repeat(59), "5;" + "(".repeat(6) + "s", "o*5|0"};

  private final DustCart cart = new DustCart();
  private final WholeModel m = new WholeModel();
  private final Random r;
  private final int run;
  /** Which calls this run likes, so that some runs live all days and some fill tape, bodies or changes. */
  private final int liking;
  private int calls;
  private String latest = "";

  private WholeTest(int run) {
    this.run = run;
    r = new Random(run * 7919L + 1);
    liking = run % 7;
  }

  public static void main(String[] args) {
    for (int run = 0; run < RUNS; run++) new WholeTest(run).go();
    Due.end("WholeTest");
  }

  private void go() {
    if (r.nextInt(4) > 0) begin();
    int before = r.nextInt(3) == 0 ? CALLS : CALLS - TELLING;
    while (calls < before) once();
    while (calls < CALLS) tellAll();
  }

  private void is(String call, long got, long want) {
    calls++;
    if (calls <= CALLS) Due.is("run " + run + ", call " + calls + " " + call + " (before: " + latest + ")", got, want);
    latest = call;
  }

  /** A plain with heights and stones, and suns that give and take. */
  private void begin() {
    row(0, 0, 36);
    int steep = 1 + r.nextInt(10);
    for (int i = 0; i < 36; i++) put(0, i, r.nextInt(steep));
    heights(0, 0, 36);
    for (int n = r.nextInt(8); n > 0; n--) mend(r.nextInt(36), 1, 1);
    int light = 1 + r.nextInt(20);
    for (int n = r.nextInt(40); n > 0; n--) mend(r.nextInt(60), 2 + r.nextInt(2), r.nextInt(10) * light / 10);
    mend(0, 4, 1 + r.nextInt(6));
    mend(0, 5, r.nextInt(13));
    ordersOn(r.nextInt(6));
    if (r.nextInt(3) > 0) return;
    for (int kind = r.nextInt(8); kind < 8; kind++) body(kind);
    for (int n = r.nextInt(4); n > 0; n--) keep(r.nextInt(6), r.nextInt(m.count(4)));
  }

  private void ordersOn(int shelf) {
    int n = 1 + r.nextInt(r.nextBoolean() ? 5 : 25);
    row(shelf, 0, n);
    for (int i = 0; i < n; i++) put(shelf, i, r.nextInt(9) == 0 ? drawn(256) : 1 + r.nextInt(5));
  }

  /** A shelf that holds a row of bytes, if there is one; sometimes any. */
  private int bytes() {
    int shelf = r.nextInt(6);
    for (int n = 0; n < 6 && r.nextInt(12) > 0 && m.lengthOf(shelf, 0) < 0; n++) shelf = (shelf + 1) % 6;
    return r.nextInt(12) == 0 ? drawn(6) : shelf;
  }

  /** The most that a row of a shelf has; 6 where there is none. */
  private int places(int shelf) {
    for (int sort = 0; sort <= 4; sort++) {
      if (m.lengthOf(shelf, sort) >= 0) return m.lengthOf(shelf, sort);
    }
    return 6;
  }

  private int drawn(int many) {
    int kind = r.nextInt(24);
    if (kind == 0) return EDGES[r.nextInt(EDGES.length)];
    if (kind == 1) return many;
    if (kind == 2) return -1;
    return many <= 0 ? 0 : r.nextInt(many);
  }

  private void once() {
    switch (r.nextInt(3) == 0 ? liking : 7 + r.nextInt(5)) {
      case 0: day(drawn(6)); break;
      case 1: change(); break;
      case 2: text(); break;
      case 3: shelf(); break;
      case 4: wheels(); break;
      case 5: days(); break;
      case 6: imaged(); break;
      case 7: plain(); break;
      case 8: days(); break;
      case 9: thought(); break;
      case 10: further(); break;
      default: everything(); break;
    }
  }

  private void everything() {
    switch (r.nextInt(5)) {
      case 0: change(); break;
      case 1: text(); break;
      case 2: shelf(); break;
      case 3: wheels(); break;
      default: imaged(); break;
    }
  }

  private void plain() {
    switch (r.nextInt(4)) {
      case 0: of(drawn(36), drawn(6)); break;
      case 1: of(drawn(36), 10 + r.nextInt(2)); break;
      case 2: of(r.nextInt(12) == 0 ? drawn(3) : 0, 19 + drawn(7)); break;
      default: cost(drawn(36), drawn(5)); break;
    }
  }

  private void change() {
    switch (r.nextInt(6)) {
      case 0: takeBack(); break;
      case 1: redo(); break;
      case 2: heights(bytes(), drawn(30), drawn(36) * 100 + drawn(37)); break;
      case 3: mend(0, 4 + r.nextInt(2), drawn(13)); break;
      case 4: mend(drawn(36), drawn(2), drawn(2)); break;
      default: mend(drawn(60), drawn(6), drawn(21)); break;
    }
    count(3);
  }

  private void takeBack() {
    int many = 1 + r.nextInt(r.nextInt(8) == 0 ? 45 : 4);
    for (int n = 0; n < many; n++) undo();
    if (r.nextInt(4) == 0) change();
    for (int n = r.nextInt(many + 2); n > 0; n--) redo();
  }

  private void text() {
    String text = TEXTS[r.nextInt(TEXTS.length)];
    if (r.nextInt(3) == 0) text = drawnText();
    for (int i = 0; i < text.length(); i++) feed(text.charAt(i));
    if (r.nextInt(12) == 0) feed(drawn(256));
    // a tape that is not taken fills up
    if (liking != 2 || r.nextInt(6) == 0) law();
    order();
  }

  private String drawnText() {
    StringBuilder text = new StringBuilder();
    for (int n = r.nextInt(12); n >= 0; n--) text.append(SIGNS.charAt(r.nextInt(SIGNS.length())));
    return text.toString();
  }

  private void days() {
    switch (r.nextInt(6)) {
      case 0: days(drawn(6)); break;
      case 1: led(drawn(60), drawn(2)); break;
      case 2: order(); break;
      default: day(drawn(6)); break;
    }
    for (int what = 20; what <= 24; what++) of(0, what);
  }

  private void imaged() {
    switch (r.nextInt(4)) {
      case 0: image(); break;
      case 1: back(); break;
      default: led(drawn(m.of(0, 20)), r.nextInt(2)); break;
    }
  }

  private void thought() {
    switch (r.nextInt(6)) {
      case 0:
        int shelf = bytes();
        run(shelf, drawn(Math.min(places(shelf), 60 - m.of(0, 20)) + 1), drawn(4));
        break;
      case 1: first(bytes()); break;
      case 2: lawful(drawn(61 - m.of(0, 20)), drawn(4)); break;
      case 3: cheapest(drawn(36) * 100 + drawn(36), drawn(2)); break;
      case 4: soonest(drawn(36), drawn(2)); break;
      default: round(drawn(2)); break;
    }
  }

  private void further() {
    switch (r.nextInt(6)) {
      case 0: lasts(drawn(21)); break;
      case 1: clean(drawn(9), drawn(2), drawn(2)); break;
      case 2: linedUp(); break;
      case 3: drawn(r.nextInt(), drawn(31), drawn(2)); break;
      default: judged(); break;
    }
  }

  private void linedUp() {
    int shelf = r.nextInt(6);
    int n = r.nextInt(7);
    row(shelf, 0, n);
    for (int i = 0; i < n; i++) put(shelf, i, r.nextInt(30) == 0 ? drawn(7) : 1 + r.nextInt(4));
    line(shelf, drawn(2));
    line(bytes(), drawn(2));
  }

  /** Told stores that are as due but for (perhaps) one. */
  private void judged() {
    int shelf = r.nextInt(6);
    int n = r.nextInt(9);
    row(shelf, 0, n);
    int unlike = r.nextInt(12);
    for (int k = 0; k < n; k++) put(shelf, k, k == unlike ? m.staying(k + 1) ^ 1 : m.staying(k + 1));
    judge(shelf);
    judge(drawn(6));
  }

  private void shelf() {
    int shelf = drawn(6);
    int other = r.nextBoolean() ? shelf : drawn(6);
    switch (r.nextInt(8)) {
      case 0: row(shelf, r.nextInt(3) > 0 ? 0 : drawn(5), drawn(61)); break;
      case 1: keep(shelf, drawn(m.count(4))); break;
      case 2: taken(shelf, drawn(8)); break;
      case 3: shifted(shelf, other, r.nextInt(5)); break;
      case 4: ordersOn(r.nextInt(6)); break;
      case 5: put(shelf, drawn(60), r.nextLong()); break;
      case 6: shift(bytes(), drawn(6), bytes(), drawn(6), drawn(6)); break;
      default: element(shelf, drawn(places(shelf))); break;
    }
  }

  /** Elements of two rows of a sort (or of one) that lie over one another. */
  private void shifted(int shelf, int other, int sort) {
    int n = 1 + r.nextInt(9);
    row(shelf, sort, n);
    for (int i = 0; i < n; i++) put(shelf, i, r.nextInt(3) == 0 ? r.nextLong() : drawn(r.nextBoolean() ? 2 : 300));
    if (shelf != other && r.nextInt(4) > 0) row(other, r.nextInt(6) == 0 ? drawn(5) : sort, drawn(9));
    int from = drawn(n);
    int to = drawn(n);
    shift(shelf, from, other, to, r.nextInt(3) == 0 ? drawn(n) : n - Math.max(from, to));
    for (int i = 0; i < n; i++) element(other, i);
  }

  private void wheels() {
    int many = r.nextInt(3) > 0 ? 0 : liking == 4 && r.nextInt(5) == 0 ? 30 : 1;
    for (int n = 0; n < many; n++) body(drawn(8));
    act(drawn(m.count(4)), drawn(4), r.nextInt(3) == 0 ? r.nextInt() : drawn(60));
    count(5);
    trace(drawn(11));
  }

  /** All that is told of the state, by what 370 calls can ask. */
  private void tellAll() {
    for (int cell = 0; cell < 36; cell++) {
      of(cell, 0);
      of(cell, 1);
    }
    for (int day = 0; day < 60; day++) {
      of(day, 2);
      of(day, 3);
      if (day <= m.of(0, 20)) led(day, r.nextInt(2));
    }
    for (int what = 20; what <= 24; what++) of(0, what);
    for (int what = 0; what <= 5; what++) count(what);
    of(0, 4);
    of(0, 5);
    order();
    for (int shelf = 0; shelf < 6; shelf++) {
      taken(shelf, 0);
      for (int i = 0; i <= places(shelf); i += 1 + r.nextInt(5)) element(shelf, i);
    }
    while (calls < CALLS) once();
  }

  private void mend(int number, int what, int v) {
    is("mend(" + number + ", " + what + ", " + v + ")", cart.mend(number, what, v), m.mend(number, what, v));
  }

  private void of(int number, int what) {
    is("of(" + number + ", " + what + ")", cart.of(number, what), m.of(number, what));
  }

  private void heights(int shelf, int i, int cn) {
    is("heights(" + shelf + ", " + i + ", " + cn + ")", cart.heights(shelf, i, cn), m.heights(shelf, i, cn));
  }

  private void feed(int letter) {
    is("feed(" + letter + ")", cart.feed(letter), m.feed(letter));
  }

  private void law() {
    is("law(" + ")", cart.law(), m.law());
  }

  private void cost(int cell, int way) {
    is("cost(" + cell + ", " + way + ")", cart.cost(cell, way), m.cost(cell, way));
  }

  private void order() {
    is("order(" + ")", cart.order(), m.order());
  }

  private void day(int order) {
    is("day(" + order + ")", cart.day(order), m.day(order));
  }

  private void days(int n) {
    is("days(" + n + ")", cart.days(n), m.days(n));
  }

  private void led(int day, int what) {
    is("led(" + day + ", " + what + ")", cart.led(day, what), m.led(day, what));
  }

  private void run(int shelf, int k, int what) {
    is("run(" + shelf + ", " + k + ", " + what + ")", cart.run(shelf, k, what), m.run(shelf, k, what));
  }

  private void first(int shelf) {
    is("first(" + shelf + ")", cart.first(shelf), m.first(shelf));
  }

  private void lawful(int k, int what) {
    is("lawful(" + k + ", " + what + ")", cart.lawful(k, what), m.lawful(k, what));
  }

  private void cheapest(int ab, int what) {
    is("cheapest(" + ab + ", " + what + ")", cart.cheapest(ab, what), m.cheapest(ab, what));
  }

  private void soonest(int cell, int what) {
    is("soonest(" + cell + ", " + what + ")", cart.soonest(cell, what), m.soonest(cell, what));
  }

  private void round(int what) {
    is("round(" + what + ")", cart.round(what), m.round(what));
  }

  private void lasts(int x) {
    is("lasts(" + x + ")", cart.lasts(x), m.lasts(x));
  }

  private void clean(int y, int what, int part) {
    is("clean(" + y + ", " + what + ", " + part + ")", cart.clean(y, what, part), m.clean(y, what, part));
  }

  private void line(int shelf, int what) {
    is("line(" + shelf + ", " + what + ")", cart.line(shelf, what), m.line(shelf, what));
  }

  private void drawn(int seed, int n, int what) {
    is("drawn(" + seed + ", " + n + ", " + what + ")", cart.drawn(seed, n, what), m.drawn(seed, n, what));
  }

  private void judge(int shelf) {
    is("judge(" + shelf + ")", cart.judge(shelf), m.judge(shelf));
  }

  private void image() {
    is("image(" + ")", cart.image(), m.image());
  }

  private void back() {
    is("back(" + ")", cart.back(), m.back());
  }

  private void undo() {
    is("undo(" + ")", cart.undo(), m.undo());
  }

  private void redo() {
    is("redo(" + ")", cart.redo(), m.redo());
  }

  private void body(int kind) {
    is("body(" + kind + ")", cart.body(kind), m.body(kind));
  }

  private void act(int body, int act, int x) {
    is("act(" + body + ", " + act + ", " + x + ")", cart.act(body, act, x), m.act(body, act, x));
  }

  private void trace(int i) {
    is("trace(" + i + ")", cart.trace(i), m.trace(i));
  }

  private void keep(int shelf, int body) {
    is("keep(" + shelf + ", " + body + ")", cart.keep(shelf, body), m.keep(shelf, body));
  }

  private void row(int shelf, int sort, int n) {
    is("row(" + shelf + ", " + sort + ", " + n + ")", cart.row(shelf, sort, n), m.row(shelf, sort, n));
  }

  private void put(int shelf, int i, long v) {
    is("put(" + shelf + ", " + i + ", " + v + ")", cart.put(shelf, i, v), m.put(shelf, i, v));
  }

  private void element(int shelf, int i) {
    is("element(" + shelf + ", " + i + ")", cart.element(shelf, i), m.element(shelf, i));
  }

  private void shift(int shelf, int i, int other, int j, int n) {
    is("shift(" + shelf + ", " + i + ", " + other + ", " + j + ", " + n + ")", cart.shift(shelf, i, other, j, n),
      m.shift(shelf, i, other, j, n));
  }

  private void taken(int shelf, int k) {
    is("taken(" + shelf + ", " + k + ")", cart.taken(shelf, k), m.taken(shelf, k));
  }

  private void count(int what) {
    is("count(" + what + ")", cart.count(what), m.count(what));
  }
}
