import java.util.regex.Matcher;
import java.util.regex.Pattern;

/** A second way to read a law: texts are folded by patterns, values are worked out by splitting. */
final class LawModel {
  // operands are folded to letters that tell how deep they stand: A (0) .. G (6), H too deep
  private static final String X = "[A-H]";
  private static final String P = X + "([*/%]" + X + ")*";
  private static final String S = P + "([+\\-]" + P + ")*";
  private static final String B = S + "([<=>]" + S + ")?";
  private static final String A = B + "(&" + B + ")*";
  private static final String E = A + "(\\|" + A + ")*";
  private static final String LINE = E + "(\\?" + E + ")?";
  private static final Pattern LINES = Pattern.compile(LINE + "(;" + LINE + ")*");
  private static final Pattern UNARY = Pattern.compile("(^|[(!\\-+*/%<=>&|?;])[!\\-](" + X + ")");
  private static final Pattern NESTED = Pattern.compile("\\((" + E + ")\\)");

  private LawModel() {}

  static boolean isText(String text) {
    if (!text.matches("[suhdowc0-9()!\\-+*/%<=>&|?;]*")) return false;
    String folded = text.replaceAll("[0-9]{1,4}|[suhdowc]", "A");
    for (int n = 0; n <= text.length(); n++) {
      String before = folded;
      Matcher m = UNARY.matcher(folded);
      if (m.find()) {
        folded = folded.substring(0, m.end(1)) + deeper(m.group(2)) + folded.substring(m.end());
      } else {
        m = NESTED.matcher(folded);
        if (m.find()) folded = folded.substring(0, m.start()) + deeper(m.group(1)) + folded.substring(m.end());
      }
      if (folded.equals(before)) break;
    }
    return folded.indexOf('H') < 0 && LINES.matcher(folded).matches();
  }

  private static char deeper(String inside) {
    char deepest = 'A';
    for (int i = 0; i < inside.length(); i++) {
      char c = inside.charAt(i);
      if (c >= 'A' && c <= 'H' && c > deepest) deepest = c;
    }
    return deepest == 'H' ? 'H' : (char) (deepest + 1);
  }

  private static boolean goesOn(String start) {
    for (int n = 0; n <= 7; n++) {
      if (isText(start + ")".repeat(n)) || isText(start + "s" + ")".repeat(n))) return true;
    }
    return false;
  }

  /** The place of the fault, or -1. */
  static int fault(String text) {
    for (int i = 1; i <= text.length(); i++) {
      if (!goesOn(text.substring(0, i))) return i - 1;
    }
    return isText(text) ? -1 : text.length();
  }

  /** What a text gives: names are s, u, d, h, o, w, c in this order. */
  static int value(String text, int[] names) {
    for (String line : text.split(";")) {
      int mark = line.indexOf('?');
      if (mark < 0) return expression(line, names);
      if (expression(line.substring(0, mark), names) != 0) return expression(line.substring(mark + 1), names);
    }
    return 0;
  }

  private static int expression(String e, int[] names) {
    for (String signs : new String[] {"|", "&", "<=>", "+-", "*/%"}) {
      int at = lastSign(e, signs);
      if (at > 0) return joined(e.charAt(at), expression(e.substring(0, at), names), expression(e.substring(at + 1), names));
    }
    char c = e.charAt(0);
    if (c == '!') return expression(e.substring(1), names) == 0 ? 1 : 0;
    if (c == '-') return -expression(e.substring(1), names);
    if (c == '(') return expression(e.substring(1, e.length() - 1), names);
    int name = "sudhowc".indexOf(c);
    return name >= 0 ? names[name] : Integer.parseInt(e);
  }

  /** The last of some signs that joins two parts and stands in no brackets. */
  private static int lastSign(String e, String signs) {
    int open = 0;
    for (int i = e.length() - 1; i > 0; i--) {
      char c = e.charAt(i);
      if (c == ')') open++;
      if (c == '(') open--;
      boolean joins = ")suhdowc0123456789".indexOf(e.charAt(i - 1)) >= 0;
      if (open == 0 && joins && signs.indexOf(c) >= 0) return i;
    }
    return -1;
  }

  private static int joined(char sign, int a, int b) {
    switch (sign) {
      case '|': return a != 0 || b != 0 ? 1 : 0;
      case '&': return a != 0 && b != 0 ? 1 : 0;
      case '<': return a < b ? 1 : 0;
      case '=': return a == b ? 1 : 0;
      case '>': return a > b ? 1 : 0;
      case '+': return (int) ((long) a + b);
      case '-': return (int) ((long) a - b);
      case '*': return (int) ((long) a * b);
      case '/': return b == 0 ? 0 : (int) ((long) a / b);
      default: return b == 0 ? 0 : (int) ((long) a % b);
    }
  }
}
