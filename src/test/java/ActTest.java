import java.util.ArrayList;
import java.util.List;

/** Promises 27 to 29: bodies, acts and their trace. */
public final class ActTest {
  private static final int TURNS = 0, MOVES = 1, LOOKS = 2, TELLS = 3;

  public static void main(String[] args) {
    bodies();
    answersByHand();
    traces();
    answersByJava();
    refused();
    Due.end("ActTest");
  }

  private static void bodies() {
    DustCart x = new DustCart();
    Due.is("body kind", x.body(-1), -1);
    Due.is("body kind", x.body(8), -1);
    for (int n = 0; n < 50; n++) Due.is("body", x.body(n % 8), n);
    Due.is("bodies are full", x.body(0), -3);
    Due.is("body bad ahead of full", x.body(8), -1);
    Due.is("count", x.count(4), 50);
    Due.is("the last body acts", x.act(49, TURNS, 1), 53);
  }

  private static void answersByHand() {
    DustCart x = new DustCart();
    for (int kind = 0; kind < 8; kind++) x.body(kind);
    Due.is("wheel turns", x.act(0, TURNS, 5), 5);
    Due.is("wheel moves", x.act(0, MOVES, 5), 10);
    Due.is("wheel looks", x.act(0, LOOKS, 5), 5);
    Due.is("wheel tells", x.act(0, TELLS, 5), 9);
    Due.is("dragged moves", x.act(1, MOVES, 5), 18);
    Due.is("dusty looks", x.act(2, LOOKS, 5), 7);
    Due.is("clean turns", x.act(3, TURNS, 5), 8);
    Due.is("stuck looks", x.act(4, LOOKS, 5), 1);
    Due.is("sleeping looks", x.act(5, LOOKS, 5), 0 - 7);
    Due.is("north moves", x.act(6, MOVES, 5), 44);
    Due.is("given looks", x.act(7, LOOKS, 5), 2);
    Due.is("ints wrap", x.act(6, MOVES, Integer.MAX_VALUE), (Integer.MAX_VALUE + 6) * 4);
    Due.is("the least int", x.act(2, MOVES, Integer.MIN_VALUE), -((Integer.MIN_VALUE + 2) * 2));
  }

  private static void traces() {
    DustCart x = new DustCart();
    for (int kind = 0; kind < 8; kind++) x.body(kind);
    trace(x, 0, TELLS, 2, 10, 1, 11);
    trace(x, 1, TURNS, 20, 1);
    trace(x, 1, MOVES, 10, 20, 1);
    trace(x, 2, MOVES, 30, 10, 1);
    trace(x, 2, TURNS, 1);
    trace(x, 3, MOVES, 41, 30, 10, 1);
    trace(x, 3, LOOKS, 40, 11);
    trace(x, 3, TELLS, 2, 41, 30, 10, 1, 40, 11);
    trace(x, 4, TELLS, 50, 2, 10, 20, 1, 11);
    trace(x, 5, LOOKS, 60, 40, 11, 1);
    trace(x, 5, TELLS, 61, 2, 41, 30, 10, 1, 60, 40, 11, 1);
    trace(x, 6, TURNS, 70, 1);
    trace(x, 7, TURNS, 81, 70, 1);
    trace(x, 7, MOVES, 80, 10, 81, 70, 1, 11);
    trace(x, 7, TELLS, 2, 80, 10, 81, 70, 1, 11, 11);
  }

  private static void trace(DustCart x, int body, int act, int... due) {
    x.act(body, act, 5);
    Due.is("count of " + body + " " + act, x.count(5), due.length);
    for (int i = 0; i < due.length; i++) Due.is("trace of " + body + " " + act, x.trace(i), due[i]);
    Due.is("trace behind", x.trace(due.length), -1);
    Due.is("trace ahead", x.trace(-1), -1);
    Due.is("trace far", x.trace(24), -1);
  }

  private static void answersByJava() {
    DustCart x = new DustCart();
    int[] xs = {0, 1, -1, 7, 1000003, Integer.MAX_VALUE, Integer.MIN_VALUE};
    for (int n = 0; n < 50; n++) {
      int kind = n * 5 % 8;
      x.body(kind);
      List<Integer> trace = new ArrayList<>();
      WheelModel.Wheel wheel = WheelModel.of(kind, n, trace);
      for (int act = TURNS; act <= TELLS; act++) {
        for (int v : xs) {
          trace.clear();
          Due.is("act " + act + " of kind " + kind, x.act(n, act, v), WheelModel.act(wheel, act, v));
          Due.is("how many ran", x.count(5), trace.size());
          for (int i = 0; i < trace.size(); i++) Due.is("trace of kind " + kind, x.trace(i), trace.get(i));
        }
      }
    }
  }

  private static void refused() {
    DustCart x = new DustCart();
    x.body(7);
    x.act(0, TELLS, 5);
    Due.is("act of no body", x.act(1, TURNS, 5), 0);
    Due.is("no trace", x.trace(0), -1);
    Due.is("no trace", x.count(5), 0);
    x.act(0, TELLS, 5);
    Due.is("no act", x.act(0, 4, 5), 0);
    Due.is("no trace", x.trace(0), -1);
    x.act(0, TELLS, 5);
    Due.is("no act", x.act(0, -1, 5), 0);
    Due.is("no trace", x.count(5), 0);
    Due.is("act of no body", x.act(-1, TURNS, 5), 0);
    Due.is("act of no body", x.act(50, TURNS, 5), 0);
    Due.is("act of no body", x.act(Integer.MIN_VALUE, TURNS, 5), 0);
  }
}
