import java.util.List;

/** The kinds of bodies as the host's own classes: which body runs, and what super is, the host finds out. */
final class WheelModel {
  private WheelModel() {}

  static Wheel of(int kind, int number, List<Integer> trace) {
    switch (kind) {
      case 0: return new Wheel(number, trace);
      case 1: return new Dragged(number, trace);
      case 2: return new Dusty(number, trace);
      case 3: return new Clean(number, trace);
      case 4: return new Stuck(number, trace);
      case 5: return new Sleeping(number, trace);
      case 6: return new North(number, trace);
      default: return new Given(number, trace);
    }
  }

  static int act(Wheel wheel, int act, int x) {
    switch (act) {
      case 0: return wheel.turns(x);
      case 1: return wheel.moves(x);
      case 2: return wheel.looks(x);
      default: return wheel.tells(x);
    }
  }

  interface Turns {
    int number();

    List<Integer> trace();

    default int turns(int x) {
      trace().add(1);
      return x + number();
    }
  }

  interface Tells {
    List<Integer> trace();

    int moves(int x);

    int looks(int x);

    default int tells(int x) {
      trace().add(2);
      return moves(x) - looks(1);
    }
  }

  static class Wheel implements Turns, Tells {
    private final int number;
    private final List<Integer> trace;

    Wheel(int number, List<Integer> trace) {
      this.number = number;
      this.trace = trace;
    }

    @Override public int number() {
      return number;
    }

    @Override public List<Integer> trace() {
      return trace;
    }

    @Override public int moves(int x) {
      trace().add(10);
      return turns(x) * 2;
    }

    @Override public int looks(int x) {
      trace().add(11);
      return x ^ number();
    }
  }

  static class Dragged extends Wheel {
    Dragged(int number, List<Integer> trace) {
      super(number, trace);
    }

    @Override public int turns(int x) {
      trace().add(20);
      return super.turns(x) + 3;
    }
  }

  static class Dusty extends Wheel {
    Dusty(int number, List<Integer> trace) {
      super(number, trace);
    }

    @Override public int moves(int x) {
      trace().add(30);
      return -super.moves(x);
    }
  }

  static class Clean extends Dusty {
    Clean(int number, List<Integer> trace) {
      super(number, trace);
    }

    @Override public int looks(int x) {
      trace().add(40);
      return super.looks(x) * 3;
    }

    @Override public int moves(int x) {
      trace().add(41);
      return super.moves(x + 1);
    }
  }

  static class Stuck extends Dragged {
    Stuck(int number, List<Integer> trace) {
      super(number, trace);
    }

    @Override public int tells(int x) {
      trace().add(50);
      return super.tells(x) ^ 5;
    }
  }

  static class Sleeping extends Clean {
    Sleeping(int number, List<Integer> trace) {
      super(number, trace);
    }

    @Override public int looks(int x) {
      trace().add(60);
      return super.looks(x) - turns(2);
    }

    @Override public int tells(int x) {
      trace().add(61);
      return super.tells(x) + 1;
    }
  }

  static class North extends Wheel {
    North(int number, List<Integer> trace) {
      super(number, trace);
    }

    @Override public int turns(int x) {
      trace().add(70);
      return super.turns(x) * 2;
    }
  }

  static class Given extends North {
    Given(int number, List<Integer> trace) {
      super(number, trace);
    }

    @Override public int moves(int x) {
      trace().add(80);
      return super.moves(x) + looks(2);
    }

    @Override public int turns(int x) {
      trace().add(81);
      return super.turns(x) - 1;
    }
  }
}
