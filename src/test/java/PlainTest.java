/** Promises 1 to 8: a new object, the plain, the law, what a move costs, the order. */
public final class PlainTest {
  public static void main(String[] args) {
    newObject();
    mend();
    mendToTheSame();
    mendRefused();
    of();
    heights();
    heightsWithoutAPlace();
    heightsRefused();
    feed();
    lawWorksOut();
    lawChoosesALine();
    lawFaults();
    lawIsKept();
    cost();
    order();
    Due.end("PlainTest");
  }

  private static void newObject() {
    DustCart x = new DustCart();
    for (int cell = 0; cell < 36; cell++) {
      Due.is("new of(cell, 0)", x.of(cell, 0), 0);
      Due.is("new of(cell, 1)", x.of(cell, 1), 0);
      Due.is("new of(cell, 10)", x.of(cell, 10), 0);
      Due.is("new of(cell, 11)", x.of(cell, 11), 0);
    }
    for (int day = 0; day < 60; day++) {
      Due.is("new of(day, 2)", x.of(day, 2), 8);
      Due.is("new of(day, 3)", x.of(day, 3), 3);
    }
    Due.is("new of(0, 4)", x.of(0, 4), 6);
    Due.is("new of(0, 5)", x.of(0, 5), 2);
    Due.is("new cart", Due.cart(x), Due.cart(0, 0, 50, 0, 0));
    for (int what = 0; what <= 5; what++) Due.is("new count(" + what + ")", x.count(what), 0);
    for (int shelf = 0; shelf < 6; shelf++) Due.is("new put", x.put(shelf, 0, 1), -11);
    Due.is("new back()", x.back(), -5);
    Due.is("new undo()", x.undo(), -5);
    Due.is("new redo()", x.redo(), -5);
    Due.is("new trace(0)", x.trace(0), -1);
    Due.is("BAD", DustCart.BAD, -1);
    Due.is("NOT", DustCart.NOT, -2);
    Due.is("FULL", DustCart.FULL, -3);
    Due.is("STATE", DustCart.STATE, -5);
    Due.is("VOID", DustCart.VOID, -2000000000);
  }

  private static void mend() {
    DustCart x = new DustCart();
    int[] last = {35, 35, 59, 59, 0, 0};
    int[] least = {0, 0, 0, 0, 1, 0};
    int[] most = {9, 1, 20, 9, 6, 12};
    int[] first = {0, 0, 8, 3, 6, 2};
    for (int what = 0; what <= 5; what++) {
      for (int number = 0; number <= last[what]; number++) {
        Due.is("mend was", x.mend(number, what, most[what]), first[what]);
        Due.is("mend most", x.mend(number, what, least[what]), most[what]);
        Due.is("mend least", x.of(number, what), least[what]);
      }
    }
    Due.is("mend is no other's", x.mend(7, 0, 4), 0);
    Due.is("mend is no other's", x.of(7, 1) + x.of(7, 2) + x.of(7, 3) + x.of(6, 0) + x.of(8, 0), 0);
  }

  /** What becomes what it was is none of the changes: not kept, and what was undone can be done again. */
  private static void mendToTheSame() {
    int[] last = {35, 35, 59, 59, 0, 0};
    int[] first = {0, 0, 8, 3, 6, 2};
    int[] other = {9, 1, 0, 9, 1, 12};
    DustCart x = new DustCart();
    for (int what = 0; what <= 5; what++) {
      Due.is("mend to the same", x.mend(last[what], what, first[what]), first[what]);
      Due.is("mend to the same is no change", x.count(3), 0);
      Due.is("no change to undo", x.undo(), -5);
    }
    for (int what = 0; what <= 5; what++) {
      x.mend(last[what], what, other[what]);
      x.mend(last[what], what, other[what]);
      Due.is("one change", x.count(3), 1);
      Due.is("undo", x.undo(), 0);
      for (int same = 0; same <= 5; same++) x.mend(0, same, first[same]);
      Due.is("redo behind no change", x.redo(), 0);
      Due.is("done again", x.of(last[what], what), other[what]);
      x.undo();
      Due.is("undone", x.of(last[what], what), first[what]);
    }
  }

  private static void mendRefused() {
    DustCart x = new DustCart();
    int[] many = {36, 36, 60, 60, 1, 1};
    int[] tooFew = {-1, -1, -1, -1, 0, -1};
    int[] tooMany = {10, 2, 21, 10, 7, 13};
    for (int what = 0; what <= 5; what++) {
      Due.is("mend number", x.mend(many[what], what, 1), -1);
      Due.is("mend number", x.mend(-1, what, 1), -1);
      Due.is("mend number", x.mend(Integer.MAX_VALUE, what, 1), -1);
      Due.is("mend low", x.mend(0, what, tooFew[what]), -1);
      Due.is("mend high", x.mend(0, what, tooMany[what]), -1);
      Due.is("mend high", x.mend(0, what, Integer.MIN_VALUE), -1);
    }
    Due.is("mend what", x.mend(0, 6, 1), -1);
    Due.is("mend what", x.mend(0, -1, 1), -1);
    Due.is("mend what", x.mend(0, 20, 1), -1);
    Due.is("refused changes", x.count(3), 0);
  }

  private static void of() {
    DustCart x = new DustCart();
    x.mend(0, 0, 1);
    x.mend(1, 0, 2);
    Due.is("of no hollow yet", x.of(0, 10), 0);
    x.mend(6, 0, 2);
    Due.is("of hollow at the corner", x.of(0, 10), 1);
    x.mend(6, 0, 1);
    Due.is("of as high is no hollow", x.of(0, 10), 0);
    for (int cell : new int[] {8, 13, 15, 20}) x.mend(cell, 0, 1);
    Due.is("of hollow inside", x.of(14, 10), 1);
    x.mend(20, 0, 0);
    Due.is("of hollow inside no more", x.of(14, 10), 0);
    x.mend(0, 1, 1);
    x.day(5);
    Due.is("of looked at", x.of(0, 11), 1);
    Due.is("of not looked at", x.of(1, 11), 0);
    Due.is("of cart", Due.cart(x), Due.cart(1, 0, 52, 1, 1));
    x.mend(0, 1, 0);
    Due.is("of looked at stays", x.of(0, 11), 1);
    for (int what : new int[] {-1, 6, 7, 8, 9, 12, 13, 19, 25, 100}) Due.is("of what", x.of(0, what), -1);
    for (int what : new int[] {4, 5, 20, 21, 22, 23, 24}) {
      Due.is("of number", x.of(1, what), -1);
      Due.is("of number", x.of(-1, what), -1);
    }
    for (int what : new int[] {0, 1, 10, 11}) Due.is("of cell", x.of(36, what) + x.of(-1, what), -2);
    for (int what : new int[] {2, 3}) Due.is("of day", x.of(60, what) + x.of(-1, what), -2);
  }

  private static void heights() {
    DustCart x = new DustCart();
    Due.is("heights from nothing", x.heights(2, 0, 5), 0);
    Due.bytes(x, 0, 9, 8, 7, 0, 10, 5);
    Due.is("heights", x.heights(0, 1, 403), 3);
    Due.is("heights", x.of(4, 0) * 100 + x.of(5, 0) * 10 + x.of(6, 0), 870);
    Due.is("heights ends at one that may not be", x.heights(0, 2, 1004), 2);
    Due.is("heights", x.of(10, 0) * 100 + x.of(11, 0) * 10 + x.of(12, 0), 700);
    Due.is("heights ends with the row", x.heights(0, 5, 2036), 1);
    Due.is("heights", x.of(20, 0), 5);
    Due.is("heights behind the row", x.heights(0, 6, 1), 0);
    Due.is("heights far behind the row", x.heights(0, Integer.MAX_VALUE, 1), 0);
    Due.is("heights ends behind cell 35", x.heights(0, 0, 3403), 2);
    Due.is("heights", x.of(34, 0) * 10 + x.of(35, 0), 98);
    Due.bytes(x, 0, -1);
    Due.is("heights below 0", x.heights(0, 0, 1), 0);
    Due.is("heights are no changes", x.count(3), 0);
    x.mend(0, 0, 3);
    x.undo();
    Due.bytes(x, 0, 6);
    Due.is("heights", x.heights(0, 0, 1), 1);
    Due.is("heights keep redo", x.redo(), 0);
    Due.is("redo behind heights", x.of(0, 0), 3);
    x.heights(0, 0, 1);
    x.undo();
    Due.is("undo behind heights", x.of(0, 0), 0);
    x.row(0, 0, 60);
    Due.is("heights all", x.heights(0, 24, 36), 36);
    Due.is("heights all but one", x.heights(0, 25, 36), 35);
  }

  /** A place that the row does not have is no BAD one: none came. */
  private static void heightsWithoutAPlace() {
    DustCart x = new DustCart();
    for (int i : new int[] {Integer.MIN_VALUE, -36, -1, 0, 1, Integer.MAX_VALUE}) {
      Due.is("heights from a bare shelf", x.heights(0, i, 1), 0);
    }
    Due.bytes(x, 0, 5, 6, 7);
    x.body(0);
    x.row(1, 1, 3);
    x.keep(2, 0);
    x.row(3, 0, 0);
    for (int i : new int[] {Integer.MIN_VALUE, -36, -2, -1, 3, 4, Integer.MAX_VALUE - 1, Integer.MAX_VALUE}) {
      Due.is("heights from no place", x.heights(0, i, 36), 0);
      Due.is("heights from a row of none", x.heights(3, i, 36), 0);
      Due.is("heights from no place of shorts", x.heights(1, i, 36), -12);
      Due.is("heights from no place of a body", x.heights(2, i, 36), -12);
      Due.is("heights bad from no place", x.heights(0, i, 0), -1);
      Due.is("heights bad from no place", x.heights(0, i, 3601), -1);
      Due.is("heights bad from no place", x.heights(6, i, 1), -1);
    }
    for (int cell = 0; cell < 36; cell++) Due.is("none came", x.of(cell, 0), 0);
    Due.is("heights from the last place", x.heights(0, 2, 36), 1);
    Due.is("heights from the first place", x.heights(0, 0, 136), 3);
    Due.is("came", x.of(0, 0) * 1000 + x.of(1, 0) * 100 + x.of(2, 0) * 10 + x.of(3, 0), 7567);
  }

  private static void heightsRefused() {
    DustCart x = new DustCart();
    x.row(0, 0, 60);
    x.row(1, 1, 60);
    x.body(0);
    x.keep(2, 0);
    Due.is("heights shelf", x.heights(-1, 0, 1), -1);
    Due.is("heights shelf", x.heights(6, 0, 1), -1);
    Due.is("heights n", x.heights(0, 0, 0), -1);
    Due.is("heights n", x.heights(0, 0, 37), -1);
    Due.is("heights n", x.heights(0, 0, 100), -1);
    Due.is("heights cell", x.heights(0, 0, 3601), -1);
    Due.is("heights below 0", x.heights(0, 0, -1), -1);
    Due.is("heights shorts", x.heights(1, 0, 1), -12);
    Due.is("heights body", x.heights(2, 0, 1), -12);
    Due.is("heights n ahead of shorts", x.heights(1, 0, 37), -1);
  }

  private static void feed() {
    DustCart x = new DustCart();
    Due.is("feed", x.feed(-1), -1);
    Due.is("feed", x.feed(256), -1);
    Due.is("feed", x.feed(0), 1);
    Due.is("feed", x.feed(255), 2);
    for (int n = 3; n <= 120; n++) Due.is("feed", x.feed(115), n);
    Due.is("feed full", x.feed(115), -3);
    Due.is("feed bad ahead of full", x.feed(256), -1);
    Due.is("feed", x.count(2), 120);
    Due.is("law", x.law(), -100);
    Due.is("tape is empty", x.count(2), 0);
    Due.is("feed again", x.feed(115), 1);
  }

  /** Cell 8 (high 4), store 77, dust 3, day 2, wind 9, a stone there. */
  private static DustCart placed() {
    DustCart x = new DustCart();
    x.mend(0, 2, 20);
    x.mend(1, 2, 20);
    x.day(2);
    x.day(2);
    x.mend(2, 2, 20);
    x.mend(2, 3, 9);
    x.mend(2, 0, 4);
    x.mend(2, 1, 1);
    return x;
  }

  private static void lawWorksOut() {
    DustCart x = placed();
    Due.is("placed", Due.cart(x), Due.cart(2, 2, 76, 1, 0));
    String[] texts = {"s", "u", "d", "h", "o", "w", "c", "s%6", "7", "8-3", "2*2+1", "1+2*2", "9-3-2", "2+9/4", "9%4*2",
      "9/0", "9%0", "5/0+3", "(0-7)/2+6", "(0-7)%2+4", "-1", "--5", "!0", "!5", "!!5", "!0+1", "-2+5", "2<3", "3<3",
      "3=3", "3=4", "4>3", "3>3", "1|0", "0|0", "4|0", "4&2", "4&0", "0&0", "1|1&0", "(1|1)&0", "1+1=2", "!s<3",
      "(((((5)))))", "((((((3))))))", "0003", "9999", "-(1-5)", "0-1", "0-6", "0-7", "2=2|0", "3&2=2", "4|2>9",
      "9999*9999", "9999*9999*9999", "-9999*9999*44%7"};
    for (String text : texts) {
      int value = LawModel.value(text, new int[] {76, 1, 2, 4, 1, 9, 2});
      Due.is("law " + text, Due.law(x, text), 1);
      Due.is("order by " + text, x.order(), value < 0 ? 0 : value % 6);
    }
    // some by hand, so that the model is not the only judge
    String[] asWell = {"1+2*2", "9-3-2", "(0-7)/2+6", "(0-7)%2+4", "!0+1", "1|1&0", "3&2=2", "--5", "s%6", "9/0", "5/0+3"};
    int[] due = {5, 4, 3, 3, 2, 1, 1, 5, 4, 0, 3};
    for (int i = 0; i < due.length; i++) {
      Due.law(x, asWell[i]);
      Due.is("order by " + asWell[i], x.order(), due[i]);
    }
    // 65536 * 65536 wraps to 0; -(2^31) / -1 stays, and leaves 0
    Due.law(x, "4096*16*4096*16+2");
    Due.is("ints wrap", x.order(), 2);
    Due.law(x, "(8192*8192*32)/(0-1)<0?(8192*8192*32)%(0-1)+4");
    Due.is("the least int by -1", x.order(), 4);
  }

  private static void lawChoosesALine() {
    DustCart x = placed();
    String[] texts = {"0?3;4", "1?3;4", "0?3", "0?1;0?2;o?3;4", "u-1?1;5", "7?0;4", "0?3;0?4", "-1?2", "3;4", "0;4"};
    int[] due = {4, 3, 0, 3, 5, 0, 0, 2, 3, 0};
    for (int i = 0; i < texts.length; i++) {
      Due.is("law " + texts[i], Due.law(x, texts[i]), 1);
      Due.is("order by " + texts[i], x.order(), due[i]);
    }
  }

  private static void lawFaults() {
    DustCart x = new DustCart();
    String[] texts = {"", "+", "s+", "s)", "(s", "((s)", "(((((((s", "!!!!!!!s", "------s", "-------s", "12345", "1234s",
      "ss", "s s", "s<s<s", "s=s>s", "(s<s)<s", "s?s?s", "(s?s)", "s?", "s;", ";", "s;;s", "s?s;", "x", "s|", "s||s", "s&&s",
      "s+-s", "s+!s", "s*-s", "s!s", "()", "(;)", "s<", "-", "!", "(-(!(-(s", "(-(!(-s)))", "S", "1.5", "s?s;s?s;s", "s*+s"};
    int[] fault = {0, 0, 2, 1, 2, 4, 6, 6, -1, 6, 4, 4,
      1, 1, 3, 3, -1, 3, 2, 2, 2, 0, 2, 4, 0, 2, 2, 2,
      -1, -1, -1, 1, 1, 1, 2, 1, 1, 6, -1, 0, 1, -1, 2};
    for (int i = 0; i < texts.length; i++) {
      Due.is("law " + texts[i], Due.law(x, texts[i]), fault[i] < 0 ? 1 : -100 - fault[i]);
      Due.is("tape behind " + texts[i], x.count(2), 0);
    }
    for (int letter = 0; letter < 256; letter++) {
      x.feed(letter);
      boolean may = "suhdowc0123456789".indexOf(letter) >= 0;
      boolean opens = "(!-".indexOf(letter) >= 0;
      Due.is("law of byte " + letter, x.law(), may ? 1 : opens ? -101 : -100);
    }
    Due.is("law of 120 bytes", Due.law(x, "s+".repeat(59) + "12"), 1);
    Due.is("law that ends too early", Due.law(x, "s+".repeat(60)), -220);
    Due.is("law of 120 signs", Due.law(x, "-" + "s+".repeat(59) + "s"), 1);
    Due.is("order by 120 signs", x.order(), 58 * 50 % 6);
  }

  private static void lawIsKept() {
    DustCart x = new DustCart();
    Due.law(x, "2");
    Due.is("law of a fault", Due.law(x, "3+"), -102);
    Due.is("the law before", x.order(), 2);
    Due.is("law of nothing", x.law(), -100);
    Due.is("the law before", x.order(), 2);
    Due.law(x, "3");
    Due.is("the law now", x.order(), 3);
  }

  private static void cost() {
    DustCart x = new DustCart();
    x.mend(8, 0, 9);
    x.mend(14, 0, 4);
    Due.is("cost up", x.cost(14, 1), 13);
    Due.is("cost down", x.cost(8, 3), 3);
    Due.is("cost up from 0", x.cost(7, 2), 21);
    Due.is("cost up from 0", x.cost(9, 4), 21);
    Due.is("cost up from 0", x.cost(2, 3), 21);
    Due.is("cost on the flat", x.cost(20, 2), 3);
    Due.is("cost to the first cell", x.cost(1, 4) + x.cost(6, 1), 6);
    x.mend(0, 4, 1);
    Due.is("cost by one wheel", x.cost(14, 1), 18);
    Due.is("cost by one wheel", x.cost(8, 3), 8);
    for (int n = 0; n < 6; n++) {
      Due.is("cost north", x.cost(n, 1), -2);
      Due.is("cost east", x.cost(6 * n + 5, 2), -2);
      Due.is("cost south", x.cost(30 + n, 3), -2);
      Due.is("cost west", x.cost(6 * n, 4), -2);
    }
    Due.is("cost cell", x.cost(36, 1), -1);
    Due.is("cost cell", x.cost(-1, 1), -1);
    Due.is("cost way", x.cost(0, 0), -1);
    Due.is("cost way", x.cost(0, 5), -1);
    Due.is("cost way", x.cost(0, -1), -1);
  }

  private static void order() {
    DustCart first = new DustCart();
    Due.law(first, "w");
    Due.is("order by the wind of day 0", first.order(), 3);
    DustCart x = new DustCart();
    Due.is("order without a text", x.order(), 0);
    x.mend(0, 1, 1);
    Due.is("order on a stone", x.order(), 5);
    x.day(5);
    Due.is("order on a stone looked at", x.order(), 0);
    Due.law(x, "d");
    Due.is("order by the day", x.order(), 1);
    x.days(59);
    Due.is("order at the end", x.order(), -5);
  }
}
