import java.lang.reflect.Method;
import java.nio.charset.StandardCharsets;
import java.nio.file.Files;
import java.nio.file.Path;
import java.util.Arrays;
import java.util.Set;
import java.util.TreeSet;
import java.util.regex.Matcher;
import java.util.regex.Pattern;

/** The example of README.md: each of its calls answers what stands behind it; the page names every call. */
public final class UseTest {
  private static final Pattern LINE = Pattern.compile("x\\.(\\w+)\\((.*)\\);\\s+// (-?\\d+)(\\s.*)?");

  public static void main(String[] args) throws Exception {
    String page = Files.readString(Path.of("README.md"), StandardCharsets.UTF_8);
    int from = page.indexOf("```java\n");
    int to = page.indexOf("```\n", from + 1);
    Due.holds("README.md has an example", from >= 0 && to > from);
    DustCart x = new DustCart();
    for (String line : page.substring(from, to).split("\n")) {
      if (line.startsWith("x.")) asked(x, line);
    }
    named(page);
    Due.end("UseTest");
  }

  private static void asked(DustCart x, String line) throws Exception {
    Matcher m = LINE.matcher(line);
    Due.holds("a call and its answer: " + line, m.matches());
    if (!m.matches()) return;
    String[] words = m.group(2).isEmpty() ? new String[0] : m.group(2).split(", ");
    for (Method call : DustCart.class.getMethods()) {
      if (!call.getName().equals(m.group(1)) || call.getParameterCount() != words.length) continue;
      Object[] numbers = new Object[words.length];
      for (int i = 0; i < words.length; i++) {
        long number = words[i].startsWith("'") ? words[i].charAt(1) : Long.parseLong(words[i]);
        boolean isInt = call.getParameterTypes()[i] == int.class;
        if (isInt) numbers[i] = (int) number;
        else numbers[i] = number;
      }
      Number answer = (Number) call.invoke(x, numbers);
      Due.is("README.md: " + line, answer.longValue(), Long.parseLong(m.group(3)));
      return;
    }
    Due.holds("there is such a call: " + line, false);
  }

  private static void named(String page) {
    Set<String> calls = new TreeSet<>();
    for (Method call : DustCart.class.getDeclaredMethods()) {
      if ((call.getModifiers() & 1) != 0) calls.add(call.getName());
    }
    Due.is("calls", calls.size(), 36 - 1);
    for (String call : calls) Due.holds("README.md names " + call, page.contains("`" + call + "`"));
    String[] constants = {"BAD", "NOT", "FULL", "STATE"};
    Due.holds("README.md names what is refused", Arrays.stream(constants).allMatch(c -> page.contains("`" + c + "`")));
  }
}
