import java.util.Arrays;

/** A cart on a plain that lives on light: days by orders and by a law, in deed and in thought. */
public final class DustCart {
  public static final int BAD = -1, NOT = -2, FULL = -3, STATE = -5, VOID = -2000000000;

  private static final int NOTHING_THERE = -11, OTHER_KIND = -12, NO_PLACE = -13, BELOW_NOTHING = -14;
  private static final int DAYS = 60, STAY = 0, SHELVES = 6;

  private final Plain plain;
  private final Cart cart;
  private final Cart thought;
  private final Cart kept;
  private final int[] orders;
  private final boolean[] could;
  private final Law rule;
  private final Ways ways;
  private final Reach reach;
  private final Changes changes;
  private final Shelf[] shelves;
  private final Wheels wheels;
  private int today;
  private int keptDay;

  public DustCart() {
    plain = new Plain();
    cart = new Cart();
    thought = new Cart();
    kept = new Cart();
    orders = new int[DAYS];
    could = new boolean[DAYS];
    rule = new Law();
    ways = new Ways();
    reach = new Reach();
    changes = new Changes();
    shelves = new Shelf[SHELVES];
    for (int i = 0; i < SHELVES; i++) shelves[i] = new Shelf();
    wheels = new Wheels();
    keptDay = -1;
  }

  // ---- the plain, days

  public int mend(int number, int what, int v) {
    int place = Plain.place(number, what);
    if (place < 0 || !Plain.mayBe(what, v)) return BAD;
    int was = plain.told(place);
    // what becomes what it was is no change: what was undone can still be done again
    if (was != v) {
      plain.tell(place, v);
      changes.note(place, was, v);
    }
    return was;
  }

  public int of(int number, int what) {
    int place = Plain.place(number, what);
    if (place >= 0) return plain.told(place);
    if (what == 10 || what == 11) return ofCell(number, what);
    return number == 0 ? ofCart(what) : BAD;
  }

  private int ofCell(int cell, int what) {
    if (!Plain.isCell(cell)) return BAD;
    boolean so = what == 10 ? plain.isHollow(cell) : cart.hasLookedAt(cell);
    return so ? 1 : 0;
  }

  private int ofCart(int what) {
    switch (what) {
      case 20: return today;
      case 21: return cart.cell;
      case 22: return cart.store;
      case 23: return cart.dust;
      case 24: return Long.bitCount(cart.looked);
      default: return BAD;
    }
  }

  public int heights(int shelf, int i, int cn) {
    if (!isShelf(shelf) || cn < 0) return BAD;
    int cell = cn / 100;
    int n = cn % 100;
    if (!Plain.isCell(cell) || n < 1 || n > Plain.CELLS) return BAD;
    if (shelves[shelf].isEmpty()) return 0;
    if (!shelves[shelf].isBytes()) return OTHER_KIND;
    return heightsFrom(shelves[shelf], i, cell, n);
  }

  /** A place that the row does not have, also one below 0, is where it ends. */
  private int heightsFrom(Shelf shelf, int i, int cell, int n) {
    int came = 0;
    for (int k = 0; k < n; k++) {
      int place = Plain.place(cell + k, Plain.HIGH);
      if (place < 0 || i < 0 || i >= shelf.length - k) break;
      int high = (int) shelf.at(i + k);
      if (!Plain.mayBe(Plain.HIGH, high)) break;
      plain.tell(place, high);
      came++;
    }
    return came;
  }

  public int feed(int letter) {
    if (letter < 0 || letter > 255) return BAD;
    return rule.take(letter) ? rule.fed : FULL;
  }

  public int law() {
    int fault = rule.become();
    return fault < 0 ? 1 : -100 - fault;
  }

  public int cost(int cell, int way) {
    if (!Plain.isCell(cell) || way < 1 || way > 4) return BAD;
    int there = Plain.neighbour(cell, way);
    return there < 0 ? NOT : plain.price(cell, there);
  }

  public int order() {
    return today >= DAYS ? STATE : rule.orderFor(plain, cart, today);
  }

  // ---- in deed

  public int day(int order) {
    if (order < 0 || order > 5) return BAD;
    if (today >= DAYS) return STATE;
    return live(order) ? 1 : 0;
  }

  public int days(int n) {
    if (n < 1 || n > DAYS) return BAD;
    if (n > DAYS - today) return STATE;
    int good = 0;
    for (int k = 0; k < n; k++) {
      if (live(rule.orderFor(plain, cart, today))) good++;
    }
    return good;
  }

  private boolean live(int order) {
    if (today >= DAYS) return false;
    boolean done = cart.live(plain, today, order);
    orders[today] = order;
    could[today] = done;
    today++;
    return done;
  }

  public int led(int day, int what) {
    if (day < 0 || day >= today || day >= DAYS || !isOneOf(what, 2)) return BAD;
    if (what == 0) return orders[day];
    return could[day] ? 1 : 0;
  }

  // ---- in thought (what 0 CELL, 1 STORE, 2 DUST, 3 how many LOOKED AT more)

  public int run(int shelf, int k, int what) {
    if (!isShelf(shelf) || k < 0 || !isOneOf(what, 4)) return BAD;
    int refused = refusedBytes(shelf);
    if (refused != 0) return refused;
    if (k > shelves[shelf].length || k > DAYS - today) return STATE;
    thought.become(cart);
    for (int n = 0; n < k; n++) thought.live(plain, today + n, orderOn(shelves[shelf], n));
    return thoughtOf(what);
  }

  public int first(int shelf) {
    if (!isShelf(shelf)) return BAD;
    int refused = refusedBytes(shelf);
    if (refused != 0) return refused;
    int n = Math.min(shelves[shelf].length, DAYS - today);
    thought.become(cart);
    for (int k = 0; k < n; k++) {
      if (!thought.live(plain, today + k, orderOn(shelves[shelf], k))) return k;
    }
    return NOT;
  }

  private static int orderOn(Shelf shelf, int i) {
    int order = (int) shelf.at(i);
    return order < 0 || order > 5 ? STAY : order;
  }

  private int thoughtOf(int what) {
    switch (what) {
      case 0: return thought.cell;
      case 1: return thought.store;
      case 2: return thought.dust;
      default: return Long.bitCount(thought.looked) - Long.bitCount(cart.looked);
    }
  }

  public int lawful(int k, int what) {
    if (k < 0 || k > DAYS || !isOneOf(what, 4)) return BAD;
    if (k > DAYS - today) return STATE;
    thought.become(cart);
    for (int n = 0; n < k; n++) {
      thought.live(plain, today + n, rule.orderFor(plain, thought, today + n));
    }
    return thoughtOf(what);
  }

  public int cheapest(int ab, int what) {
    if (ab < 0 || !Plain.isCell(ab / 100) || !Plain.isCell(ab % 100) || !isOneOf(what, 2)) return BAD;
    int from = ab / 100;
    ways.spreadTo(plain, ab % 100);
    if (what == 0) return ways.costFrom(from);
    int there = ways.firstFrom(plain, from);
    return there < 0 ? NOT : there;
  }

  public int soonest(int cell, int what) {
    if (!Plain.isCell(cell) || !isOneOf(what, 2)) return BAD;
    if (!reach.find(plain, cart, today, cell)) return NOT;
    return what == 0 ? reach.taken : reach.most;
  }

  public int round(int what) {
    if (!isOneOf(what, 2)) return BAD;
    if (!ways.planRound(plain, cart)) return STATE;
    if (what == 0) return ways.roundCost;
    return ways.roundFirst < 0 ? NOT : ways.roundFirst;
  }

  public int lasts(int x) {
    if (x < 0 || x > 20) return BAD;
    thought.become(cart);
    for (int day = today; day < DAYS; day++) {
      thought.liveUnder(plain, day, STAY, Math.max(0, plain.sun(day) - x), plain.wind(day));
      if (thought.store == 0) return day;
    }
    return NOT;
  }

  public long clean(int y, int what, int part) {
    if (y < 0 || y > 8 || !isOneOf(what, 2) || !isOneOf(part, 2)) return Long.MIN_VALUE;
    long calm = 12 - plain.odds();
    long above;
    long below;
    if (what == 0) {
      below = power(12, y);
      above = below - power(calm, y);
    } else {
      below = power(12, Math.max(0, y - 1));
      above = 0;
      // a day is waited for when all the days ahead of it were calm
      for (int n = 0; n < y; n++) above += power(calm, n) * power(12, y - 1 - n);
    }
    long common = greatestCommon(above, below);
    if (common == 0) return Long.MIN_VALUE;
    return (part == 0 ? above : below) / common;
  }

  private static long power(long base, int times) {
    long all = 1;
    for (int n = 0; n < times; n++) all *= base;
    return all;
  }

  private static long greatestCommon(long a, long b) {
    long great = a;
    long small = b;
    for (int turn = 0; turn < 200 && small != 0; turn++) {
      long rest = great % small;
      great = small;
      small = rest;
    }
    return great;
  }

  public long line(int shelf, int what) {
    if (!isShelf(shelf) || !isOneOf(what, 2) || !shelves[shelf].isBytes()) return Long.MIN_VALUE;
    long begun = 0;
    long ended = 0;
    for (int cell = 0; cell < Plain.CELLS; cell++) {
      int end = endOfLine(shelves[shelf], cell);
      if (end >= 0) {
        begun |= 1L << cell;
        ended |= 1L << end;
      }
    }
    return what == 0 ? begun : ended;
  }

  private static int endOfLine(Shelf shelf, int from) {
    int cell = from;
    for (int i = 0; i < shelf.length && cell >= 0; i++) cell = Plain.neighbour(cell, (int) shelf.at(i));
    return cell;
  }

  public int drawn(int seed, int n, int what) {
    if (n < 1 || n > 30 || !isOneOf(what, 2)) return BAD;
    int z = seed;
    int dark = 0;
    int sum = 0;
    for (int time = 0; time < n; time++) {
      boolean wasDark = false;
      thought.become(cart);
      for (int day = today; day < DAYS; day++) {
        z = z * 1103515245 + 12345;
        int wind = (z >>> 8) % 12 < plain.odds() ? 9 : 0;
        thought.liveUnder(plain, day, STAY, plain.sun(day), wind);
        if (thought.store == 0) wasDark = true;
      }
      if (wasDark) dark++;
      sum += thought.store;
    }
    return what == 0 ? dark : sum;
  }

  public int judge(int shelf) {
    if (!isShelf(shelf)) return BAD;
    int refused = refusedBytes(shelf);
    if (refused != 0) return refused;
    int n = Math.min(shelves[shelf].length, DAYS - today);
    thought.become(cart);
    for (int k = 0; k < n; k++) {
      thought.live(plain, today + k, STAY);
      if (shelves[shelf].at(k) != thought.store) return k;
    }
    return NOT;
  }

  public int image() {
    kept.become(cart);
    keptDay = today;
    return today;
  }

  public int back() {
    if (keptDay < 0) return STATE;
    cart.become(kept);
    today = keptDay;
    return today;
  }

  public int undo() {
    return changes.takeBack(plain) ? changes.done : STATE;
  }

  public int redo() {
    return changes.bringBack(plain) ? changes.known - changes.done : STATE;
  }

  // ---- acts, shelves

  public int body(int kind) {
    if (!Wheels.isKind(kind)) return BAD;
    int number = wheels.add(kind);
    return number < 0 ? FULL : number;
  }

  public int act(int body, int act, int x) {
    return wheels.perform(body, act, x);
  }

  public int trace(int i) {
    int ran = wheels.ranAt(i);
    return ran < 0 ? BAD : ran;
  }

  public int keep(int shelf, int body) {
    if (!isShelf(shelf) || body != -1 && !wheels.has(body)) return BAD;
    if (body == -1) shelves[shelf].holdNothing();
    else shelves[shelf].holdBody(body);
    return 1;
  }

  public int row(int shelf, int sort, int n) {
    if (!isShelf(shelf) || !isOneOf(sort, 5) || n > Shelf.LONGEST) return BAD;
    if (n < 0) return BELOW_NOTHING;
    shelves[shelf].holdRow(sort, n);
    return 1;
  }

  public int put(int shelf, int i, long v) {
    if (!isShelf(shelf)) return BAD;
    int refused = refusedPlace(shelves[shelf], i);
    if (refused != 0) return refused;
    shelves[shelf].set(i, v);
    return 1;
  }

  public long element(int shelf, int i) {
    if (!isShelf(shelf) || refusedPlace(shelves[shelf], i) != 0) return Long.MIN_VALUE;
    return shelves[shelf].at(i);
  }

  private static int refusedPlace(Shelf shelf, int i) {
    if (shelf.isEmpty()) return NOTHING_THERE;
    if (!shelf.isRow()) return OTHER_KIND;
    return shelf.hasPlaces(i, 1) ? 0 : NO_PLACE;
  }

  public int shift(int shelf, int i, int other, int j, int n) {
    if (!isShelf(shelf) || !isShelf(other)) return BAD;
    Shelf from = shelves[shelf];
    Shelf to = shelves[other];
    if (from.isEmpty() || to.isEmpty()) return NOTHING_THERE;
    if (!from.isRow() || !to.isRow() || from.sort != to.sort) return OTHER_KIND;
    if (!from.hasPlaces(i, n) || !to.hasPlaces(j, n)) return NO_PLACE;
    System.arraycopy(from.elements, i, to.elements, j, n);
    return n;
  }

  public int taken(int shelf, int k) {
    if (!isShelf(shelf) || !Wheels.isKind(k)) return BAD;
    if (shelves[shelf].isEmpty()) return NOTHING_THERE;
    if (shelves[shelf].isRow()) return OTHER_KIND;
    int kind = wheels.kindOf(shelves[shelf].body);
    return Wheels.isUnder(kind, k) ? kind : OTHER_KIND;
  }

  public int count(int what) {
    switch (what) {
      case 0: return plain.stones();
      case 1: return plain.hollows();
      case 2: return rule.fed;
      case 3: return changes.done;
      case 4: return wheels.kept;
      case 5: return wheels.begun;
      default: return BAD;
    }
  }

  private static boolean isShelf(int shelf) {
    return shelf >= 0 && shelf < SHELVES;
  }

  private static boolean isOneOf(int what, int many) {
    return what >= 0 && what < many;
  }

  /** 0 where a shelf holds a row of bytes, else what refuses it. */
  private int refusedBytes(int shelf) {
    if (shelves[shelf].isEmpty()) return NOTHING_THERE;
    return shelves[shelf].isBytes() ? 0 : OTHER_KIND;
  }

  /** What mend() tells: heights and stones of cells, suns and winds of days, wheels, odds. */
  private static final class Plain {
    static final int CELLS = 36, SIDE = 6, NONE = -1;
    static final int HIGH = 0, STONES_AT = 36, SUNS_AT = 72, WINDS_AT = 132, WHEELS_AT = 192, ODDS_AT = 193;
    // by what: where its numbers begin, how many there are, the least and the most one may be
    private static final int[] BEGIN = {0, 36, 72, 132, 192, 193};
    private static final int[] MANY = {36, 36, 60, 60, 1, 1};
    private static final int[] LEAST = {0, 0, 0, 0, 1, 0};
    private static final int[] MOST = {9, 1, 20, 9, 6, 12};

    private final int[] numbers = new int[194];

    Plain() {
      for (int day = 0; day < DAYS; day++) {
        numbers[SUNS_AT + day] = 8;
        numbers[WINDS_AT + day] = 3;
      }
      numbers[WHEELS_AT] = 6;
      numbers[ODDS_AT] = 2;
    }

    static boolean isCell(int cell) {
      return cell >= 0 && cell < CELLS;
    }

    static int place(int number, int what) {
      if (what < 0 || what >= MANY.length || number < 0 || number >= MANY[what]) return NONE;
      return BEGIN[what] + number;
    }

    static boolean mayBe(int what, int v) {
      return what >= 0 && what < LEAST.length && v >= LEAST[what] && v <= MOST[what];
    }

    static int neighbour(int cell, int way) {
      switch (way) {
        case 1: return cell >= SIDE ? cell - SIDE : NONE;
        case 2: return cell % SIDE < SIDE - 1 ? cell + 1 : NONE;
        case 3: return cell < CELLS - SIDE ? cell + SIDE : NONE;
        case 4: return cell % SIDE > 0 ? cell - 1 : NONE;
        default: return NONE;
      }
    }

    int told(int place) {
      return place >= 0 && place < numbers.length ? numbers[place] : 0;
    }

    void tell(int place, int v) {
      if (place >= 0 && place < numbers.length) numbers[place] = v;
    }

    int high(int cell) {
      return cell >= 0 && cell < CELLS ? numbers[cell] : 0;
    }

    boolean isStone(int cell) {
      return cell >= 0 && cell < CELLS && numbers[STONES_AT + cell] == 1;
    }

    int sun(int day) {
      return day >= 0 && day < DAYS ? numbers[SUNS_AT + day] : 0;
    }

    int wind(int day) {
      return day >= 0 && day < DAYS ? numbers[WINDS_AT + day] : 0;
    }

    int odds() {
      return numbers[ODDS_AT];
    }

    int price(int from, int to) {
      return 3 + 2 * Math.max(0, high(to) - high(from)) + 6 - numbers[WHEELS_AT];
    }

    boolean isHollow(int cell) {
      for (int way = 1; way <= 4; way++) {
        int there = neighbour(cell, way);
        if (there >= 0 && high(there) <= high(cell)) return false;
      }
      return true;
    }

    int stones() {
      int n = 0;
      for (int cell = 0; cell < CELLS; cell++) if (isStone(cell)) n++;
      return n;
    }

    int hollows() {
      int n = 0;
      for (int cell = 0; cell < CELLS; cell++) if (isHollow(cell)) n++;
      return n;
    }
  }

  /** The cart but for its wheels: in deed, in thought or in the image. */
  private static final class Cart {
    static final int CLEAN_WIND = 7, MOST_STORE = 99, MOST_DUST = 9, LOOK = 5;

    int cell;
    int store;
    int dust;
    long looked;

    Cart() {
      store = 50;
    }

    void become(Cart other) {
      place(other.cell, other.store, other.dust);
      looked = other.looked;
    }

    void place(int toCell, int toStore, int toDust) {
      cell = toCell;
      store = toStore;
      dust = toDust;
    }

    boolean hasLookedAt(int there) {
      return (looked >>> there & 1L) != 0;
    }

    boolean isOnNewStone(Plain plain) {
      return plain.isStone(cell) && !hasLookedAt(cell);
    }

    boolean live(Plain plain, int day, int order) {
      return liveUnder(plain, day, order, plain.sun(day), plain.wind(day));
    }

    /** A day by an order under a told sun and wind; whether the order could be. */
    boolean liveUnder(Plain plain, int day, int order, int sun, int wind) {
      boolean done = order == LOOK ? lookAround(plain) : order == STAY || move(plain, order);
      boolean hollow = plain.isHollow(cell);
      store += Math.max(0, sun - dust / 2);
      store -= hollow ? 2 : 4;
      store = Math.min(MOST_STORE, Math.max(0, store));
      if (day % 3 == 0) dust = Math.min(MOST_DUST, dust + 1);
      if (wind >= CLEAN_WIND && !hollow) dust = 0;
      return done;
    }

    private boolean move(Plain plain, int way) {
      int there = Plain.neighbour(cell, way);
      if (there < 0) return false;
      int price = plain.price(cell, there);
      if (store < price) return false;
      store -= price;
      cell = there;
      return true;
    }

    private boolean lookAround(Plain plain) {
      if (store < 2 || !isOnNewStone(plain)) return false;
      store -= 2;
      looked |= 1L << cell;
      return true;
    }
  }

  /** The tape, and the law that its text became: codes in the order in which a stack works them out. */
  private static final class Law {
    static final int LONGEST = 120, DEEPEST = 6, NONE = -1;
    // a number is its own code; a name or a sign is its letter below 0
    static final int TEST = -'?', END = -';', NEGATE = -'~', FLIP = -'!';

    private final int[] tape = new int[LONGEST];
    private final int[] draft = new int[LONGEST + 1];
    private final int[] codes = new int[LONGEST + 1];
    private final int[] stack = new int[LONGEST + 1];
    private int drafted;
    private int coded;
    private int high;
    private int place;
    private int fault;
    int fed;

    boolean take(int letter) {
      if (fed >= LONGEST) return false;
      tape[fed] = letter;
      fed++;
      return true;
    }

    /** The tape becomes the law, if it is a text: the fault's place, or NONE. */
    int become() {
      drafted = 0;
      place = 0;
      fault = NONE;
      readLines();
      if (fault == NONE) {
        System.arraycopy(draft, 0, codes, 0, drafted);
        coded = drafted;
      }
      fed = 0;
      return fault;
    }

    private int sign() {
      return fault == NONE && place < fed ? tape[place] : NONE;
    }

    private boolean pass(int letter) {
      if (sign() != letter) return false;
      place++;
      return true;
    }

    private void refuse() {
      if (fault == NONE) fault = place;
    }

    private void write(int code) {
      if (drafted < draft.length) {
        draft[drafted] = code;
        drafted++;
      }
    }

    private void readLines() {
      for (int n = 0; n <= LONGEST; n++) {
        readOr(0);
        if (pass('?')) {
          write(TEST);
          readOr(0);
        }
        write(END);
        if (!pass(';')) break;
      }
      if (place < fed) refuse();
    }

    private void readOr(int open) {
      readAnd(open);
      for (int n = 0; n < LONGEST && pass('|'); n++) {
        readAnd(open);
        write(-'|');
      }
    }

    private void readAnd(int open) {
      readCompared(open);
      for (int n = 0; n < LONGEST && pass('&'); n++) {
        readCompared(open);
        write(-'&');
      }
    }

    private void readCompared(int open) {
      readSum(open);
      int letter = sign();
      if (letter == '<' || letter == '=' || letter == '>') {
        place++;
        readSum(open);
        write(-letter);
      }
    }

    private void readSum(int open) {
      readProduct(open);
      for (int n = 0; n < LONGEST; n++) {
        int letter = sign();
        if (letter != '+' && letter != '-') break;
        place++;
        readProduct(open);
        write(-letter);
      }
    }

    private void readProduct(int open) {
      readOperand(open);
      for (int n = 0; n < LONGEST; n++) {
        int letter = sign();
        if (letter != '*' && letter != '/' && letter != '%') break;
        place++;
        readOperand(open);
        write(-letter);
      }
    }

    /** open: how many of ( ! - are open ahead of this operand. */
    private void readOperand(int open) {
      int letter = sign();
      if (isDigit(letter)) {
        readNumber();
      } else if (isName(letter)) {
        place++;
        write(-letter);
      } else if (open < DEEPEST && (letter == '(' || letter == '!' || letter == '-')) {
        place++;
        readOpened(letter, open + 1);
      } else {
        refuse();
      }
    }

    private void readOpened(int letter, int open) {
      if (letter == '(') {
        readOr(open);
        if (!pass(')')) refuse();
      } else {
        readOperand(open);
        write(letter == '!' ? FLIP : NEGATE);
      }
    }

    private void readNumber() {
      int number = 0;
      for (int n = 0; n < 4 && isDigit(sign()); n++) {
        number = number * 10 + sign() - '0';
        place++;
      }
      write(number);
    }

    private static boolean isDigit(int letter) {
      return letter >= '0' && letter <= '9';
    }

    private static boolean isName(int letter) {
      switch (letter) {
        case 's': case 'u': case 'd': case 'h': case 'o': case 'w': case 'c': return true;
        default: return false;
      }
    }

    int orderFor(Plain plain, Cart cart, int day) {
      if (coded == 0) return cart.isOnNewStone(plain) ? Cart.LOOK : STAY;
      int value = workOut(plain, cart, day);
      return value < 0 ? STAY : value % 6;
    }

    private int workOut(Plain plain, Cart cart, int day) {
      boolean passedOver = false;
      high = 0;
      for (int n = 0; n < coded; n++) {
        int code = codes[n];
        if (code == END) {
          if (!passedOver) return pop();
          passedOver = false;
        } else if (!passedOver) {
          if (code == TEST) passedOver = pop() == 0;
          else step(code, plain, cart, day);
        }
      }
      return 0;
    }

    private void step(int code, Plain plain, Cart cart, int day) {
      if (code >= 0) {
        push(code);
      } else if (isName(-code)) {
        push(named(-code, plain, cart, day));
      } else if (code == NEGATE) {
        push(-pop());
      } else if (code == FLIP) {
        push(pop() == 0 ? 1 : 0);
      } else {
        int second = pop();
        push(joined(-code, pop(), second));
      }
    }

    private static int named(int name, Plain plain, Cart cart, int day) {
      switch (name) {
        case 's': return cart.store;
        case 'u': return cart.dust;
        case 'd': return day;
        case 'h': return plain.high(cart.cell);
        case 'o': return cart.isOnNewStone(plain) ? 1 : 0;
        case 'w': return plain.wind(day);
        default: return cart.cell;
      }
    }

    private static int joined(int letter, int a, int b) {
      switch (letter) {
        case '+': return a + b;
        case '-': return a - b;
        case '*': return a * b;
        case '/': return b == 0 ? 0 : a / b;
        case '%': return b == 0 ? 0 : a % b;
        case '<': return a < b ? 1 : 0;
        case '=': return a == b ? 1 : 0;
        case '>': return a > b ? 1 : 0;
        case '&': return a != 0 && b != 0 ? 1 : 0;
        default: return a != 0 || b != 0 ? 1 : 0;
      }
    }

    private void push(int value) {
      if (high < stack.length) {
        stack[high] = value;
        high++;
      }
    }

    private int pop() {
      if (high <= 0) return 0;
      high--;
      return stack[high];
    }
  }

  /** What the cheapest ways cost, and the cheapest round by the stones. */
  private static final class Ways {
    static final int FAR = 1000000, MOST_STONES = 5, NORTH_SIDE = -1;

    private final int[] left = new int[Plain.CELLS];
    private final int[] stones = new int[MOST_STONES];
    private final int[] toStone = new int[MOST_STONES];
    private final int[] between = new int[MOST_STONES * MOST_STONES];
    private final int[] rest = new int[(1 << MOST_STONES) * MOST_STONES];
    private int many;
    int roundCost;
    int roundFirst;

    /** Works out what is left to pay from each cell to one cell, or to the north side. */
    void spreadTo(Plain plain, int goal) {
      for (int cell = 0; cell < Plain.CELLS; cell++) {
        boolean there = goal == NORTH_SIDE ? cell < Plain.SIDE : cell == goal;
        left[cell] = there ? 0 : FAR;
      }
      long settled = 0;
      for (int turn = 0; turn < Plain.CELLS; turn++) {
        int cell = nearest(settled);
        if (cell < 0) break;
        settled |= 1L << cell;
        spreadFrom(plain, cell);
      }
    }

    private int nearest(long settled) {
      int near = -1;
      for (int cell = 0; cell < Plain.CELLS; cell++) {
        if ((settled >>> cell & 1L) == 0 && (near < 0 || left[cell] < left[near])) near = cell;
      }
      return near;
    }

    private void spreadFrom(Plain plain, int cell) {
      for (int way = 1; way <= 4; way++) {
        int ahead = Plain.neighbour(cell, way);
        if (ahead >= 0) left[ahead] = Math.min(left[ahead], plain.price(ahead, cell) + left[cell]);
      }
    }

    int costFrom(int cell) {
      return Plain.isCell(cell) ? left[cell] : FAR;
    }

    /** The first cell on a cheapest way; none, if it is there. */
    int firstFrom(Plain plain, int cell) {
      for (int way = 1; way <= 4; way++) {
        int there = Plain.neighbour(cell, way);
        if (there >= 0 && plain.price(cell, there) + costFrom(there) == costFrom(cell)) return there;
      }
      return -1;
    }

    /** Whether the stones are few enough for a round. */
    boolean planRound(Plain plain, Cart cart) {
      if (!listStones(plain, cart)) return false;
      for (int i = 0; i < many; i++) {
        spreadTo(plain, stones[i]);
        toStone[i] = costFrom(cart.cell);
        for (int j = 0; j < many; j++) between[j * MOST_STONES + i] = costFrom(stones[j]);
      }
      spreadTo(plain, NORTH_SIDE);
      for (int set = 0; set < 1 << many; set++) {
        for (int i = 0; i < many; i++) rest[set * MOST_STONES + i] = leastRest(set, i);
      }
      chooseFirst(costFrom(cart.cell));
      return true;
    }

    private boolean listStones(Plain plain, Cart cart) {
      many = 0;
      for (int cell = 0; cell < Plain.CELLS; cell++) {
        if (!plain.isStone(cell) || cart.hasLookedAt(cell)) continue;
        if (many >= MOST_STONES) return false;
        stones[many] = cell;
        many++;
      }
      return true;
    }

    /** From stone i by all stones of a set to the north side; smaller sets are worked out before. */
    private int leastRest(int set, int i) {
      if (set == 0) return costFrom(stones[i]);
      int least = FAR;
      for (int j = 0; j < many; j++) {
        if ((set >>> j & 1) != 0) {
          int onward = rest[(set ^ 1 << j) * MOST_STONES + j];
          least = Math.min(least, between[i * MOST_STONES + j] + onward);
        }
      }
      return least;
    }

    private void chooseFirst(int withoutStones) {
      roundCost = many == 0 ? withoutStones : FAR;
      roundFirst = -1;
      int all = (1 << many) - 1;
      for (int i = 0; i < many; i++) {
        int whole = toStone[i] + rest[(all ^ 1 << i) * MOST_STONES + i];
        if (whole < roundCost) {
          roundCost = whole;
          roundFirst = stones[i];
        }
      }
    }
  }

  /** Where the cart can be behind so many days: by cell and dust the most store, as more is never worse. */
  private static final class Reach {
    static final int MOST_DAYS = 20, DUSTS = 10, NONE = -1;

    private final int[] now = new int[Plain.CELLS * DUSTS];
    private final int[] next = new int[Plain.CELLS * DUSTS];
    private final Cart trial = new Cart();
    int taken;
    int most;

    boolean find(Plain plain, Cart cart, int today, int cell) {
      Arrays.fill(now, NONE);
      arrive(now, cart);
      int last = Math.min(MOST_DAYS, DAYS - today);
      for (int n = 0; n <= last; n++) {
        most = mostIn(cell);
        taken = n;
        if (most >= 0) return true;
        if (n < last) goOn(plain, today + n);
      }
      return false;
    }

    private static void arrive(int[] stores, Cart cart) {
      int i = cart.cell * DUSTS + cart.dust;
      if (i >= 0 && i < stores.length) stores[i] = Math.max(stores[i], cart.store);
    }

    private int mostIn(int cell) {
      int best = NONE;
      for (int dust = 0; dust < DUSTS; dust++) best = Math.max(best, now[cell * DUSTS + dust]);
      return best;
    }

    private void goOn(Plain plain, int day) {
      Arrays.fill(next, NONE);
      int sun = plain.sun(day);
      int wind = plain.wind(day);
      for (int i = 0; i < now.length; i++) {
        if (now[i] < 0) continue;
        for (int order = STAY; order <= 4; order++) {
          trial.place(i / DUSTS, now[i], i % DUSTS);
          if (trial.liveUnder(plain, day, order, sun, wind)) arrive(next, trial);
        }
      }
      System.arraycopy(next, 0, now, 0, now.length);
    }
  }

  /** The changes that may be undone, the latest last, and behind them those that may be done again. */
  private static final class Changes {
    static final int MOST = 40;

    private final int[] places = new int[MOST];
    private final int[] before = new int[MOST];
    private final int[] behind = new int[MOST];
    int done;
    int known;

    void note(int place, int was, int is) {
      if (done >= MOST) dropOldest();
      places[done] = place;
      before[done] = was;
      behind[done] = is;
      done++;
      known = done;
    }

    private void dropOldest() {
      done = MOST - 1;
      System.arraycopy(places, 1, places, 0, done);
      System.arraycopy(before, 1, before, 0, done);
      System.arraycopy(behind, 1, behind, 0, done);
    }

    boolean takeBack(Plain plain) {
      if (done <= 0) return false;
      done--;
      plain.tell(places[done], before[done]);
      return true;
    }

    boolean bringBack(Plain plain) {
      if (done >= known) return false;
      plain.tell(places[done], behind[done]);
      done++;
      return true;
    }
  }

  /** One shelf: nothing, a body, or a row of one sort. */
  private static final class Shelf {
    static final int LONGEST = 60;
    private static final int NOTHING = 0, BODY = 1, ROW = 2;

    final long[] elements = new long[LONGEST];
    private int holds;
    int body;
    int sort;
    int length;

    boolean isEmpty() {
      return holds == NOTHING;
    }

    boolean isRow() {
      return holds == ROW;
    }

    boolean isBytes() {
      return holds == ROW && sort == 0;
    }

    void holdNothing() {
      holds = NOTHING;
    }

    void holdBody(int number) {
      holds = BODY;
      body = number;
    }

    void holdRow(int ofSort, int n) {
      holds = ROW;
      sort = ofSort;
      length = Math.min(LONGEST, Math.max(0, n));
      Arrays.fill(elements, 0L);
    }

    boolean hasPlaces(int i, int n) {
      return i >= 0 && n >= 0 && i <= length && n <= length - i;
    }

    long at(int i) {
      return hasPlaces(i, 1) ? elements[i] : 0;
    }

    void set(int i, long v) {
      if (hasPlaces(i, 1)) elements[i] = narrowed(v);
    }

    private long narrowed(long v) {
      switch (sort) {
        case 0: return (byte) v;
        case 1: return (short) v;
        case 2: return (int) v;
        case 3: return v;
        default: return v != 0 ? 1 : 0;
      }
    }
  }

  /** The bodies, and what runs when one of them acts. */
  private static final class Wheels {
    static final int MOST = 50, KINDS = 8, ACTS = 4, TOLD = 24, DEEPEST = 20;
    static final int TURNS = 0, MOVES = 1, LOOKS = 2;
    private static final int[] ABOVE = {-1, 0, 0, 2, 1, 3, 0, 6};
    // by acts and kinds: the act's body that the kind itself has (0: it has none);
    // what the interfaces bring stands with the wheel
    private static final int[] BODIES = {
      1, 20, 0, 0, 0, 0, 70, 81,
      10, 0, 30, 41, 0, 0, 0, 80,
      11, 0, 0, 40, 0, 60, 0, 0,
      2, 0, 0, 0, 50, 61, 0, 0};

    private final int[] kinds = new int[MOST];
    private final int[] ran = new int[TOLD];
    private int number;
    int kept;
    int begun;

    static boolean isKind(int kind) {
      return kind >= 0 && kind < KINDS;
    }

    static boolean isUnder(int kind, int top) {
      int k = kind;
      for (int n = 0; n < KINDS && isKind(k); n++) {
        if (k == top) return true;
        k = ABOVE[k];
      }
      return false;
    }

    boolean has(int body) {
      return body >= 0 && body < kept && body < MOST;
    }

    int kindOf(int body) {
      return has(body) ? kinds[body] : -1;
    }

    int add(int kind) {
      if (kept >= MOST) return -1;
      kinds[kept] = kind;
      kept++;
      return kept - 1;
    }

    int ranAt(int i) {
      return i >= 0 && i < begun && i < TOLD ? ran[i] : -1;
    }

    int perform(int body, int act, int x) {
      begun = 0;
      if (!has(body) || act < 0 || act >= ACTS) return 0;
      number = body;
      return begin(act, kindOf(body), x, 0);
    }

    /** Runs the body that an act has in a kind, or in the next kind above that has one. */
    private int begin(int act, int kind, int x, int deep) {
      int holder = kind;
      for (int n = 0; n < KINDS && isKind(holder) && BODIES[act * KINDS + holder] == 0; n++) {
        holder = ABOVE[holder];
      }
      if (!isKind(holder) || deep > DEEPEST) return 0;
      int body = BODIES[act * KINDS + holder];
      if (begun < TOLD) ran[begun] = body;
      begun++;
      if (body <= 11) return answerOfWheel(body, x, deep);
      return answerUnder(body, act, ABOVE[holder], x, deep);
    }

    private int own(int act, int x, int deep) {
      return begin(act, kindOf(number), x, deep + 1);
    }

    private int answerOfWheel(int body, int x, int deep) {
      switch (body) {
        case 1: return x + number;
        case 2: return own(MOVES, x, deep) - own(LOOKS, 1, deep);
        case 10: return own(TURNS, x, deep) * 2;
        default: return x ^ number;
      }
    }

    private int answerUnder(int body, int act, int above, int x, int deep) {
      int from = begin(act, above, body == 41 ? x + 1 : x, deep + 1);
      switch (body) {
        case 20: return from + 3;
        case 30: return -from;
        case 40: return from * 3;
        case 50: return from ^ 5;
        case 60: return from - own(TURNS, 2, deep);
        case 61: return from + 1;
        case 70: return from * 2;
        case 80: return from + own(LOOKS, 2, deep);
        case 81: return from - 1;
        default: return from;
      }
    }
  }
}
