/** A second way to live a day, over a copy of what a cart tells of itself. */
final class DayModel {
  final int[] high = new int[36];
  final int[] stone = new int[36];
  final boolean[] looked = new boolean[36];
  final int[] sun = new int[60];
  final int[] wind = new int[60];
  int wheels;
  int today;
  int cell;
  int store;
  int dust;

  private DayModel() {}

  static DayModel of(DustCart x) {
    DayModel m = new DayModel();
    for (int i = 0; i < 36; i++) {
      m.high[i] = x.of(i, 0);
      m.stone[i] = x.of(i, 1);
      m.looked[i] = x.of(i, 11) == 1;
    }
    for (int i = 0; i < 60; i++) {
      m.sun[i] = x.of(i, 2);
      m.wind[i] = x.of(i, 3);
    }
    m.wheels = x.of(0, 4);
    m.today = x.of(0, 20);
    m.cell = x.of(0, 21);
    m.store = x.of(0, 22);
    m.dust = x.of(0, 23);
    return m;
  }

  static int there(int cell, int way) {
    int row = cell / 6 + (way == 1 ? -1 : way == 3 ? 1 : 0);
    int column = cell % 6 + (way == 4 ? -1 : way == 2 ? 1 : 0);
    return row < 0 || row > 5 || column < 0 || column > 5 ? -1 : 6 * row + column;
  }

  int cost(int from, int to) {
    int up = high[to] > high[from] ? high[to] - high[from] : 0;
    return 3 + 2 * up + (6 - wheels);
  }

  boolean hollow(int at) {
    boolean all = true;
    for (int way = 1; way <= 4; way++) {
      if (there(at, way) >= 0) all &= high[at] < high[there(at, way)];
    }
    return all;
  }

  boolean isNew() {
    return stone[cell] == 1 && !looked[cell];
  }

  int looks() {
    int n = 0;
    for (boolean l : looked) if (l) n++;
    return n;
  }

  int[] names() {
    return new int[] {store, dust, today, high[cell], isNew() ? 1 : 0, wind[today], cell};
  }

  boolean day(int order) {
    return day(order, sun[today], wind[today]);
  }

  boolean day(int order, int light, int blow) {
    boolean could = true;
    if (order >= 1 && order <= 4) {
      int to = there(cell, order);
      could = to >= 0 && store >= cost(cell, to);
      if (could) {
        store -= cost(cell, to);
        cell = to;
      }
    } else if (order == 5) {
      could = isNew() && store > 1;
      if (could) {
        store -= 2;
        looked[cell] = true;
      }
    }
    int more = light - dust / 2;
    if (more > 0) store += more;
    store -= hollow(cell) ? 2 : 4;
    if (store < 0) store = 0;
    if (store > 99) store = 99;
    if (today % 3 == 0 && dust < 9) dust++;
    if (blow > 6 && !hollow(cell)) dust = 0;
    today++;
    return could;
  }
}
