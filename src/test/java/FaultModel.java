import java.util.ArrayDeque;
import java.util.Deque;

/** A second way to find the FAULT of a text: sign by sign, keeping what is open; the first sign not taken is it. */
final class FaultModel {
  /** The ( ! - that are open, the latest first. */
  private final Deque<Character> open = new ArrayDeque<>();
  /** For each open ( whether there was a < = > in what it stands in. */
  private final Deque<Boolean> comparedOutside = new ArrayDeque<>();
  private boolean compared;
  private boolean asked;
  /** Whether an operand has just ended, or (a number) may have; how many digits it has. */
  private boolean behindOperand;
  private int digits;

  private FaultModel() {}

  /** The place of the fault, or -1. */
  static int fault(String text) {
    FaultModel m = new FaultModel();
    for (int i = 0; i < text.length(); i++) {
      if (!m.takes(text.charAt(i))) return i;
    }
    return m.behindOperand && m.open.isEmpty() ? -1 : text.length();
  }

  private boolean takes(char c) {
    if (!behindOperand) return takesOperand(c);
    if (isDigit(c)) {
      digits++;
      return digits >= 2 && digits <= 4;
    }
    digits = 0;
    if (c == ')') return closes();
    behindOperand = false;
    return goesOn(c);
  }

  private static boolean isDigit(char c) {
    return c >= '0' && c <= '9';
  }

  private boolean takesOperand(char c) {
    if (isDigit(c) || "sudhowc".indexOf(c) >= 0) {
      digits = isDigit(c) ? 1 : 0;
      operandEnds();
      return true;
    }
    if ("(!-".indexOf(c) < 0 || open.size() >= 6) return false;
    open.push(c);
    if (c == '(') {
      comparedOutside.push(compared);
      compared = false;
    }
    return true;
  }

  /** With an operand end the ! and - ahead of it. */
  private void operandEnds() {
    behindOperand = true;
    while (!open.isEmpty() && open.peek() != '(') open.pop();
  }

  private boolean closes() {
    if (open.isEmpty()) return false;
    open.pop();
    compared = comparedOutside.pop();
    operandEnds();
    return true;
  }

  /** A sign between operands. */
  private boolean goesOn(char c) {
    if ("*/%+-".indexOf(c) >= 0) return true;
    boolean again = compared;
    compared = "<=>".indexOf(c) >= 0;
    if (compared) return !again;
    if (c == '&' || c == '|') return true;
    if (!open.isEmpty()) return false;
    if (c == ';') {
      asked = false;
      return true;
    }
    boolean first = !asked;
    asked = true;
    return c == '?' && first;
  }
}
