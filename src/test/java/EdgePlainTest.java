/** Promises 1 to 8: each sentence that names a boundary, one test each. */
public final class EdgePlainTest {
  private static final int MIN = Integer.MIN_VALUE, MAX = Integer.MAX_VALUE;
  private static final int[] WHATS = {0, 1, 2, 3, 4, 5};
  private static final int[] LAST = {35, 35, 59, 59, 0, 0};
  private static final int[] LEAST = {0, 0, 0, 0, 1, 0};
  private static final int[] MOST = {9, 1, 20, 9, 6, 12};
  private static final int[] AT_FIRST = {0, 0, 8, 3, 6, 2};

  public static void main(String[] args) {
    atFirst();
    mendNumbers();
    mendValues();
    mendWhats();
    ofNumbers();
    ofHollow();
    heightsMany();
    heightsEnd();
    heightsRows();
    feed();
    lawPlaces();
    lawNumbers();
    lawOpen();
    lawTape();
    lawInts();
    lawTruths();
    lawLines();
    orderBySix();
    orderNames();
    orderAtTheEnd();
    cost();
    costOffThePlain();
    Due.end("EdgePlainTest");
  }

  private static void atFirst() {
    DustCart x = new DustCart();
    for (int what : WHATS) {
      Due.sentence(1, "at first, of mend()'s " + what);
      for (int number = 0; number <= LAST[what]; number++) Due.is("of " + number, x.of(number, what), AT_FIRST[what]);
    }
    Due.sentence(1, "TODAY 0, a CELL 0, STORE 50, DUST 0, none LOOKED AT at first");
    Due.is("cart", Due.cart(x), Due.cart(0, 0, 50, 0, 0));
    Due.sentence(1, "SHELVES 0 .. 5 each hold nothing (at first)");
    for (int shelf = 0; shelf <= 5; shelf++) Due.is("taken " + shelf, x.taken(shelf, 0), -11);
    Due.sentence(1, "A bare plain: nothing on THE TAPE, no THE LAW, no CHANGES, BODIES, IMAGE, TRACE, no DAY that was");
    for (int what = 0; what <= 5; what++) Due.is("count " + what, x.count(what), 0);
    Due.is("order()", x.order(), 0);
    Due.is("undo()", x.undo(), -5);
    Due.is("redo()", x.redo(), -5);
    Due.is("back()", x.back(), -5);
    Due.is("trace(0)", x.trace(0), -1);
    Due.is("led(0, 0)", x.led(0, 0), -1);
    Due.sentence(1, "VOID is -2000000000; BAD -1, NOT -2, FULL -3, STATE -5");
    Due.is("VOID", DustCart.VOID, -2000000000L);
    Due.is("BAD NOT FULL STATE", DustCart.BAD * 1000 + DustCart.NOT * 100 + DustCart.FULL * 10 + DustCart.STATE, -1235);
  }

  private static void mendNumbers() {
    DustCart x = new DustCart();
    for (int what : WHATS) {
      Due.sentence(2, "numbers of " + what + ": 0 .. " + LAST[what] + ", another: BAD");
      int v = MOST[what] - 1;
      Due.is("mend the first", x.mend(0, what, v), AT_FIRST[what]);
      Due.is("of the first", x.of(0, what), v);
      if (LAST[what] > 0) Due.is("mend the last", x.mend(LAST[what], what, v), AT_FIRST[what]);
      Due.is("of the last", x.of(LAST[what], what), v);
      int changes = x.count(3);
      for (int number : new int[] {LAST[what] + 1, -1, 100, MIN, MAX}) Due.is("mend " + number, x.mend(number, what, v), -1);
      Due.is("changes", x.count(3), changes);
    }
  }

  private static void mendValues() {
    for (int what : WHATS) {
      Due.sentence(2, "values of " + what + ": " + LEAST[what] + " .. " + MOST[what] + ", another: BAD");
      DustCart x = new DustCart();
      int last = LAST[what];
      Due.is("mend the least", x.mend(last, what, LEAST[what]), AT_FIRST[what]);
      Due.is("of the least", x.of(last, what), LEAST[what]);
      Due.is("mend the most", x.mend(last, what, MOST[what]), LEAST[what]);
      Due.is("of the most", x.of(last, what), MOST[what]);
      int changes = x.count(3);
      for (int v : new int[] {LEAST[what] - 1, MOST[what] + 1, -MOST[what], 256, MIN, MAX}) {
        Due.is("mend to " + v, x.mend(last, what, v), -1);
        Due.is("of", x.of(last, what), MOST[what]);
      }
      Due.is("changes", x.count(3), changes);
    }
  }

  private static void mendWhats() {
    Due.sentence(2, "what 0 to 5, another: BAD");
    DustCart x = new DustCart();
    for (int what : new int[] {-1, 6, 10, 11, 20, 21, 22, 23, 24, MIN, MAX}) Due.is("mend " + what, x.mend(0, what, 1), -1);
    Due.is("changes", x.count(3), 0);
    Due.is("cart", Due.cart(x), Due.cart(0, 0, 50, 0, 0));
  }

  private static void ofNumbers() {
    DustCart x = new DustCart();
    for (int what : WHATS) {
      Due.sentence(3, "As of mend(): numbers of " + what + ", another: BAD");
      Due.is("of the last", x.of(LAST[what], what), AT_FIRST[what]);
      for (int number : new int[] {LAST[what] + 1, -1, MIN, MAX}) Due.is("of " + number, x.of(number, what), -1);
    }
    for (int what : new int[] {10, 11}) {
      Due.sentence(3, "of a CELL " + what + ", another: BAD");
      Due.is("of the first", x.of(0, what), 0);
      Due.is("of the last", x.of(35, what), 0);
      for (int number : new int[] {36, -1, MIN, MAX}) Due.is("of " + number, x.of(number, what), -1);
    }
    for (int what = 20; what <= 24; what++) {
      Due.sentence(3, "number 0: " + what + ", another: BAD");
      Due.is("of 0", x.of(0, what), what == 22 ? 50 : 0);
      for (int number : new int[] {1, -1, 35, MIN, MAX}) Due.is("of " + number, x.of(number, what), -1);
    }
    Due.sentence(3, "of(number, what) BAD: no such what");
    for (int what : new int[] {-1, 6, 9, 12, 19, 25, MIN, MAX}) Due.is("of(0, " + what + ")", x.of(0, what), -1);
  }

  private static void ofHollow() {
    Due.sentence(3, "HOLLOW: a CELL that is lower than each of its neighbours");
    for (int cell : new int[] {0, 5, 30, 35, 2, 11, 18, 33, 14}) {
      DustCart x = new DustCart();
      Due.is("no lower than any", x.of(cell, 10), 0);
      for (int way = 1; way <= 4; way++) {
        if (there(cell, way) >= 0) x.mend(there(cell, way), 0, 1);
      }
      Due.is("lower than each of " + cell, x.of(cell, 10), 1);
      Due.is("one hollow", x.count(1), 1);
      for (int way = 1; way <= 4; way++) {
        int there = there(cell, way);
        if (there < 0) continue;
        x.mend(there, 0, 0);
        Due.is("as low as " + there, x.of(cell, 10), 0);
        x.mend(there, 0, 9);
      }
      x.mend(cell, 0, 9);
      Due.is("as high as each of " + cell, x.of(cell, 10), 0);
      x.mend(cell, 0, 8);
      Due.is("lower by one than each of " + cell, x.of(cell, 10), 1);
    }
    Due.sentence(3, "CELL 0 is a neighbour as any other");
    DustCart z = new DustCart();
    for (int cell : new int[] {2, 7, 12}) z.mend(cell, 0, 1);
    Due.is("cell 1 beside a cell 0 of its height", z.of(1, 10), 0);
    Due.is("cell 6 beside a cell 0 of its height", z.of(6, 10), 0);
    z.mend(0, 0, 1);
    Due.is("cell 1 beside a cell 0 that is higher", z.of(1, 10), 1);
    Due.is("cell 6 beside a cell 0 that is higher", z.of(6, 10), 1);
    Due.sentence(3, "the end of a row and the next one's begin are no neighbours");
    DustCart y = new DustCart();
    for (int cell : new int[] {4, 11}) y.mend(cell, 0, 1);
    Due.is("cell 5 beside a cell 6 of its height", y.of(5, 10), 1);
    for (int cell : new int[] {0, 7, 12}) y.mend(cell, 0, 1);
    Due.is("cell 6 beside a cell 5 of its height", y.of(6, 10), 1);
  }

  private static int there(int cell, int way) {
    return DayModel.there(cell, way);
  }

  private static void heightsMany() {
    Due.sentence(4, "n (1 .. 36) of them, for CELLS from one on");
    DustCart x = new DustCart();
    x.row(0, 0, 60);
    Due.is("n 1", x.heights(0, 0, 1), 1);
    Due.is("n 36", x.heights(0, 0, 36), 36);
    Due.is("n 1 of the last cell", x.heights(0, 0, 3501), 1);
    for (int cn : new int[] {0, 37, 99, 100, 137, 3500, 3537}) Due.is("n of " + cn, x.heights(0, 0, cn), -1);
    for (int cn : new int[] {3601, 3636, 10001, MAX, -1, -99, -101, MIN}) Due.is("cell of " + cn, x.heights(0, 0, cn), -1);
    Due.sentence(4, "on a SHELF: BAD");
    for (int shelf : new int[] {-1, 6, MIN, MAX}) Due.is("shelf " + shelf, x.heights(shelf, 0, 1), -1);
    Due.sentence(4, "BAD ahead of -12");
    x.row(1, 1, 3);
    Due.is("n of a row of shorts", x.heights(1, 0, 37), -1);
  }

  private static void heightsEnd() {
    DustCart x = new DustCart();
    Due.sentence(4, "it ends where the row is missing");
    for (int i : new int[] {0, 1, -1, 60, MIN, MAX}) Due.is("from " + i, x.heights(0, i, 36), 0);
    Due.sentence(4, "it ends where the row ends");
    Due.bytes(x, 0, 1, 2, 3);
    Due.is("as many as it has", x.heights(0, 0, 3), 3);
    Due.is("one more than it has", x.heights(0, 0, 1004), 3);
    Due.is("behind those that came", x.of(13, 0), 0);
    Due.is("from the last", x.heights(0, 2, 36), 1);
    for (int i : new int[] {3, 4, 60, MAX, -1, -2, MIN}) Due.is("from " + i, x.heights(0, i, 36), 0);
    Due.is("cell 0 came from the last", x.of(0, 0), 3);
    x.row(1, 0, 0);
    Due.is("a row of none", x.heights(1, 0, 36), 0);
    Due.sentence(4, "it ends where one is not as it may be: those ahead came");
    for (int bad : new int[] {10, 127, -1, -128}) {
      DustCart y = new DustCart();
      Due.bytes(y, 0, 9, 0, 9, bad, 9);
      Due.is("ahead of " + bad, y.heights(0, 0, 2005), 3);
      Due.is("came", y.of(20, 0) * 1000 + y.of(21, 0) * 100 + y.of(22, 0) * 10 + y.of(23, 0), 9090);
      Due.is("behind it", y.of(24, 0), 0);
      Due.is("from it on", y.heights(0, 3, 5), 0);
    }
    Due.sentence(4, "it ends behind CELL 35");
    Due.bytes(x, 0, 4, 5, 6);
    Due.is("from cell 34", x.heights(0, 0, 3403), 2);
    Due.is("from cell 35", x.heights(0, 2, 3536), 1);
    Due.is("cells 34 and 35", x.of(34, 0) * 10 + x.of(35, 0), 46);
    Due.is("no stone behind cell 35", x.of(0, 1), 0);
    Due.sentence(4, "(no CHANGES)");
    Due.is("count(3)", x.count(3), 0);
    Due.is("undo()", x.undo(), -5);
    x.mend(0, 5, 3);
    x.undo();
    x.heights(0, 0, 3);
    Due.is("no other came behind", x.redo(), 0);
  }

  private static void heightsRows() {
    Due.sentence(4, "-12 (no ROW of bytes; a SHELF that holds nothing is missing)");
    DustCart x = new DustCart();
    x.body(0);
    x.keep(5, 0);
    for (int sort = 1; sort <= 4; sort++) x.row(sort, sort, 3);
    for (int shelf = 1; shelf <= 5; shelf++) Due.is("shelf " + shelf, x.heights(shelf, 0, 1), -12);
    Due.is("nothing", x.heights(0, 0, 1), 0);
    x.keep(5, -1);
    Due.is("nothing again", x.heights(5, 0, 1), 0);
  }

  private static void feed() {
    DustCart x = new DustCart();
    Due.sentence(5, "A byte (0 .. 255); BAD");
    for (int letter : new int[] {-1, 256, MIN, MAX}) Due.is("feed " + letter, x.feed(letter), -1);
    Due.is("none came", x.count(2), 0);
    Due.is("feed 0", x.feed(0), 1);
    Due.is("feed 255", x.feed(255), 2);
    Due.sentence(5, "FULL (120)");
    for (int n = 3; n <= 120; n++) Due.is("feed", x.feed(115), n);
    Due.is("the one behind", x.feed(115), -3);
    Due.is("once more", x.feed(0), -3);
    Due.is("120 stay", x.count(2), 120);
    Due.sentence(5, "BAD ahead of FULL");
    Due.is("feed 256", x.feed(256), -1);
    Due.is("feed -1", x.feed(-1), -1);
  }

  private static void lawPlaces() {
    Due.sentence(6, "the place (from 0) of the first byte with which no TEXT goes on");
    String[] texts = {")", "+s", "s)", "ss", "s s", "s?s?s", "s<s<s", "s<s=s", "s>s>s", "(s?s)", "(s;s)", "s;;s", "s??s", "()",
      "s+;", "s+?", "s&|s", "(s))", "s=", "?s", "s!", "s(s)", "5s", "s5", "S", "1?2;x"};
    int[] fault = {0, 0, 1, 1, 1, 3, 3, 3, 3, 2, 2, 2, 2, 1, 2, 2, 2, 3, 2, 0, 1, 1, 1, 1, 0, 4};
    for (int i = 0; i < texts.length; i++) Due.is("law " + texts[i], Due.law(new DustCart(), texts[i]), -100 - fault[i]);
    Due.is("the last of 120 bytes", Due.law(new DustCart(), "s+".repeat(59) + "s)"), -219);
    Due.is("the first of 120 bytes", Due.law(new DustCart(), ")" + "s".repeat(119)), -100);
    Due.sentence(6, "the length, if it ends too early");
    String[] early = {"", "(", "!", "-", "(s", "s+", "s-", "s?", "s;", "s?s;", "s<", "s|", "s&", "s%", "((((((s)))))", "-(-(s)"};
    for (String text : early) Due.is("law " + text, Due.law(new DustCart(), text), -100 - text.length());
    Due.is("120 bytes", Due.law(new DustCart(), "s+".repeat(60)), -220);
    Due.sentence(6, "LINES, one or more");
    Due.is("none", new DustCart().law(), -100);
    Due.is("one", Due.law(new DustCart(), "s"), 1);
    Due.is("sixty", Due.law(new DustCart(), "1;".repeat(59) + "1"), 1);
    Due.sentence(6, "no bytes of a TEXT: those behind 127, blanks, 0");
    for (int letter : new int[] {0, 9, 10, 32, 127, 128, 163, 179, 243, 255}) {
      DustCart y = new DustCart();
      y.feed(letter);
      Due.is("the first " + letter, y.law(), -100);
      y.feed('s');
      y.feed(letter);
      Due.is("the second " + letter, y.law(), -101);
    }
  }

  private static void lawNumbers() {
    Due.sentence(6, "a number (1 to 4 digits)");
    String[] texts = {"0", "9", "00", "999", "0000", "9999", "00000", "12345", "99999", "s+12345", "(12345)", "9999?12345"};
    int[] fault = {-1, -1, -1, -1, -1, -1, 4, 4, 4, 6, 5, 9};
    for (int i = 0; i < texts.length; i++) {
      Due.is("law " + texts[i], Due.law(new DustCart(), texts[i]), fault[i] < 0 ? 1 : -100 - fault[i]);
    }
    lawGives("0009=9", 1);
    lawGives("9999=10*10*10*10-1", 1);
  }

  private static void lawOpen() {
    Due.sentence(6, "At most 6 of ( ! - ahead of an O are open at once");
    Due.is("6 (", Due.law(new DustCart(), "((((((s))))))"), 1);
    Due.is("7 (", Due.law(new DustCart(), "(((((((s)))))))"), -106);
    for (String sign : new String[] {"!", "-"}) {
      Due.is("6 " + sign, Due.law(new DustCart(), sign.repeat(6) + "s"), 1);
      Due.is("7 " + sign, Due.law(new DustCart(), sign.repeat(7) + "s"), -106);
    }
    String[] texts = {"(!-(!-s))", "(!-(!-(s)))", "(!-(!-!s))", "((((((s+!s))))))", "((((((s--s))))))", "((((((s-s))))))"};
    int[] fault = {-1, 6, 6, 8, 8, -1};
    for (int i = 0; i < texts.length; i++) {
      Due.is("law " + texts[i], Due.law(new DustCart(), texts[i]), fault[i] < 0 ? 1 : -100 - fault[i]);
    }
    Due.sentence(6, "open at once: an O that has ended is open no more");
    String[] again = {"((((((s))))))+((((((s))))))", "!!!!!!s+!!!!!!s", "------s*------s", "((((((s)+!s)))))", "!(!(!(s)))-(!(!(!s)))",
      "((((((s))))))?------s;!!!!!!s"};
    for (String text : again) Due.is("law " + text, Due.law(new DustCart(), text), 1);
  }

  private static void lawTape() {
    Due.sentence(6, "THE TAPE is empty then");
    DustCart x = new DustCart();
    Due.is("law", Due.law(x, "1?2;3"), 1);
    Due.is("behind a text", x.count(2), 0);
    Due.is("law", Due.law(x, "1?2;3)"), -105);
    Due.is("behind a fault", x.count(2), 0);
    Due.is("the next byte is the first", x.feed('s'), 1);
    Due.is("law", x.law(), 1);
    Due.is("law of nothing", x.law(), -100);
    Due.sentence(6, "THE TAPE (at most 120 bytes) becomes THE LAW");
    Due.is("120 bytes", Due.law(x, "-" + "1+".repeat(57) + "1*2+1"), 1);
    Due.is("all of them count", x.order(), (-1 + 56 + 2 + 1) % 6);
    Due.tape(x, "1+".repeat(60));
    Due.is("the byte that would end it", x.feed('1'), -3);
    Due.is("it did not come", x.law(), -220);
    Due.sentence(6, "THE LAW stays when a text is at FAULT");
    Due.law(x, "4");
    Due.law(x, "5+");
    Due.is("order by the law before", x.order(), 4);
    Due.sentence(6, "a shorter THE LAW behind a longer one");
    Due.law(x, "0?1;0?2;0?3;5");
    Due.law(x, "0?1");
    Due.is("order", x.order(), 0);
  }

  private static void lawGives(String text, int order) {
    DustCart x = new DustCart();
    Due.is("law " + text, Due.law(x, text), 1);
    Due.is("order by " + text, x.order(), order);
  }

  /** 8192*4*8192*8 wraps to the least int, M; M-1 to the greatest. */
  private static void lawInts() {
    Due.sentence(6, "Ints that wrap");
    String least = "8192*4*8192*8";
    for (String so : new String[] {least + "<0", least + "-1>0", least + "-1+1<0", "-(" + least + ")=" + least, least + "+" + least + "=0",
      "8192*8*8192*8=0", "9999*9999*9999<0"}) {
      lawGives(so, 1);
    }
    Due.sentence(6, "/ and % toward 0");
    for (String so : new String[] {"(0-7)/2=0-3", "(0-7)%2=0-1", "7/(0-2)=0-3", "7%(0-2)=1", "-7/-2=3", "-7%-2=-1", "7/8=0", "-7/8=0"}) {
      lawGives(so, 1);
    }
    Due.sentence(6, "the least int by -1 wraps");
    lawGives(least + "/-1=" + least, 1);
    lawGives(least + "%-1=0", 1);
    Due.sentence(6, "by 0 they give 0");
    for (String so : new String[] {"7/0=0", "7%0=0", "0/0=0", "0%0=0", "-7/0=0", "-7%0=0", "7/u=0", least + "/0=0", least + "%0=0"}) {
      lawGives(so, 1);
    }
  }

  private static void lawTruths() {
    Due.sentence(6, "| & < = > ! give 1, 0");
    String[] ones = {"5|0", "0|5", "5|7", "-1|0", "5&7", "-1&-2", "2<3", "-1<0", "3=3", "3>2", "0>-1", "!0"};
    String[] noughts = {"0|0", "5&0", "0&5", "0&0", "3<3", "3<2", "3=4", "3>3", "2>3", "!1", "!5", "!-1"};
    for (String one : ones) lawGives("(" + one + ")=1", 1);
    for (String nought : noughts) lawGives("(" + nought + ")=0", 1);
    Due.sentence(6, "a value is true, if it is not 0, also one that 2 goes into, or below 0");
    lawGives("2&4", 1);
    lawGives("(0-2)&(0-4)", 1);
    Due.sentence(6, "all is worked out: a part that cannot change the answer changes none");
    lawGives("1|5/0", 1);
    lawGives("(0&5/0)+3", 3);
  }

  private static void lawLines() {
    Due.sentence(6, "The first LINE without a first E, or whose first E is not 0, counts");
    lawGives("3", 3);
    lawGives("3;4", 3);
    lawGives("0;4", 0);
    lawGives("1?3;4", 3);
    lawGives("-1?3;4", 3);
    lawGives("0?3;4", 4);
    lawGives("0?1;0?2;0?3;4;5", 4);
    lawGives("0?1;2?3;4", 3);
    lawGives("1?0;4", 0);
    lawGives("0;".repeat(59) + "5", 0);
    lawGives("0?1;".repeat(29) + "2?3", 3);
    Due.sentence(6, "none: 0");
    lawGives("0?3", 0);
    lawGives("0?1;0?2;0?3", 0);
  }

  private static void orderBySix() {
    Due.sentence(8, "(by 6 what is left, 0 at least; below 0: 0)");
    String[] texts = {"0", "1", "5", "6", "7", "11", "12", "9999", "-1", "-5", "-6", "-7", "-11", "8192*4*8192*8", "8192*4*8192*8-1"};
    int[] due = {0, 1, 5, 0, 1, 5, 0, 9999 % 6, 0, 0, 0, 0, 0, 0, MAX % 6};
    for (int i = 0; i < texts.length; i++) lawGives(texts[i], due[i]);
    Due.sentence(8, "Without a text: 5, if o; else 0");
    DustCart x = new DustCart();
    Due.is("no stone", x.order(), 0);
    x.mend(0, 1, 1);
    Due.is("a stone", x.order(), 5);
    x.day(5);
    Due.is("a stone looked at", x.order(), 0);
  }

  private static void orderNames() {
    Due.sentence(8, "NAMES at their bounds");
    DustCart x = new DustCart();
    for (int cell = 0; cell < 36; cell++) x.mend(cell, 0, cell == 35 ? 9 : 0);
    Due.is("law", Due.law(x, "c<5?2;c<29?3;0"), 1);
    x.days(9);
    Due.is("ahead of the last cell", x.of(0, 21), 29);
    Due.store(x, 40);
    Due.is("onto the last cell", x.day(3), 1);
    x.mend(x.of(0, 20), 3, 9);
    names(x, "c=35&h=9&w=9&o=0", 1);
    x.mend(35, 1, 1);
    names(x, "o=1", 1);
    x.mend(x.of(0, 20), 3, 0);
    names(x, "w=0", 1);
    for (int day = x.of(0, 20); day < 60; day++) x.mend(day, 2, 0);
    Due.law(x, "0");
    x.days(59 - x.of(0, 20));
    names(x, "d=59&s=0&u=9", 1);
    DustCart y = new DustCart();
    names(y, "c=0&h=0&w=3&o=0&d=0&s=50&u=0", 1);
    Due.store(y, 99);
    names(y, "s=99", 1);
  }

  private static void names(DustCart x, String text, int order) {
    Due.is("law " + text, Due.law(x, text), 1);
    Due.is("order by " + text, x.order(), order);
  }

  private static void orderAtTheEnd() {
    Due.sentence(8, "STATE: TODAY is 60");
    DustCart x = new DustCart();
    Due.law(x, "d-58");
    x.days(59);
    Due.is("order on day 59", x.order(), 1);
    x.days(1);
    Due.is("order behind day 59", x.order(), -5);
    x.mend(0, 1, 1);
    Due.is("order behind day 59", x.order(), -5);
  }

  private static void cost() {
    Due.sentence(7, "3, twice by how much that is higher (0, if it is not), and 6 less WHEELS");
    DustCart x = new DustCart();
    x.mend(1, 0, 9);
    x.mend(2, 0, 8);
    for (int wheels = 6; wheels >= 1; wheels--) {
      x.mend(0, 4, wheels);
      Due.is("up by 9", x.cost(0, 2), 3 + 18 + 6 - wheels);
      Due.is("down by 9", x.cost(1, 4), 3 + 6 - wheels);
      Due.is("up by 1", x.cost(2, 4), 3 + 2 + 6 - wheels);
      Due.is("down by 1", x.cost(1, 2), 3 + 6 - wheels);
      Due.is("as high", x.cost(35, 1), 3 + 6 - wheels);
    }
    Due.sentence(7, "a CELL; way 1 .. 4; BAD");
    for (int cell : new int[] {-1, 36, MIN, MAX}) Due.is("cost of " + cell, x.cost(cell, 1), -1);
    for (int way : new int[] {-1, 0, 5, MIN, MAX}) Due.is("cost by " + way, x.cost(14, way), -1);
  }

  private static void costOffThePlain() {
    Due.sentence(7, "NOT: there is none");
    DustCart x = new DustCart();
    for (int cell = 0; cell < 36; cell++) {
      Due.is("north of " + cell, x.cost(cell, 1), cell < 6 ? -2 : 3);
      Due.is("east of " + cell, x.cost(cell, 2), cell % 6 == 5 ? -2 : 3);
      Due.is("south of " + cell, x.cost(cell, 3), cell > 29 ? -2 : 3);
      Due.is("west of " + cell, x.cost(cell, 4), cell % 6 == 0 ? -2 : 3);
    }
    Due.sentence(7, "BAD ahead of NOT");
    Due.is("no such way off the plain", x.cost(0, 5), -1);
    Due.is("no such cell", x.cost(36, 3), -1);
  }
}
