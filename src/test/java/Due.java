/** Counts the answers that are as due and prints the others; with some ways to set a cart up. */
final class Due {
  private static int right = 0;
  private static int wrong = 0;
  private static int sentences = 0;
  private static String sentence = "";
  private static boolean asked = true;

  private Due() {}

  /** What is asked from here on tests this sentence of the document (or what it says of one boundary); 0: of all. */
  static void sentence(int promise, String words) {
    endSentence();
    sentences++;
    sentence = (promise == 0 ? "all promises" : "promise " + promise) + " \"" + words + "\": ";
    asked = false;
  }

  private static void endSentence() {
    if (!asked) holds("something is asked of this sentence", false);
    sentence = "";
  }

  static void is(String call, long got, long want) {
    asked = true;
    if (got == want) {
      right++;
    } else {
      wrong++;
      if (wrong <= 40) System.out.println(sentence + call + " answered " + got + ", due is " + want);
    }
  }

  static void holds(String what, boolean so) {
    is(what, so ? 1 : 0, 1);
  }

  /** Ends the test: exit code 1 if an answer was wrong, or none was asked for. */
  static void end(String name) {
    endSentence();
    String of = sentences == 0 ? "" : " to " + sentences + " sentences";
    System.out.println(name + ": " + right + " answers" + of + " as due, " + wrong + " not");
    if (wrong > 0 || right == 0) System.exit(1);
  }

  /** The text comes to the tape of x and law() is called: its answer. */
  static int law(DustCart x, String text) {
    tape(x, text);
    return x.law();
  }

  static void tape(DustCart x, String text) {
    for (int i = 0; i < text.length(); i++) x.feed(text.charAt(i));
  }

  /** The cart stays, under suns told for it, until STORE is v. */
  static void store(DustCart x, int v) {
    for (int n = 0; n < 40 && x.of(0, 22) != v; n++) {
      int kept = x.of(0, 22) - (x.of(x.of(0, 21), 10) == 1 ? 2 : 4);
      x.mend(x.of(0, 20), 2, kept >= v ? 0 : Math.min(20, v - kept + x.of(0, 23) / 2));
      x.day(0);
    }
    is("store told", x.of(0, 22), v);
  }

  /** A shelf of x holds a row of bytes. */
  static void bytes(DustCart x, int shelf, int... elements) {
    row(x, shelf, 0, elements);
  }

  static void row(DustCart x, int shelf, int sort, int... elements) {
    x.row(shelf, sort, elements.length);
    for (int i = 0; i < elements.length; i++) x.put(shelf, i, elements[i]);
  }

  static void heights(DustCart x, int... highs) {
    for (int cell = 0; cell < highs.length; cell++) x.mend(cell, 0, highs[cell]);
  }

  /** TODAY, CELL, STORE, DUST and how many LOOKED AT, as one number. */
  static long cart(DustCart x) {
    long all = 0;
    for (int what = 20; what <= 24; what++) all = all * 100 + x.of(0, what);
    return all;
  }

  static long cart(int today, int cell, int store, int dust, int looked) {
    return (((today * 100L + cell) * 100 + store) * 100 + dust) * 100 + looked;
  }
}
