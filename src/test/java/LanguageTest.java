import java.lang.reflect.Field;
import java.lang.reflect.Member;
import java.lang.reflect.Method;
import java.lang.reflect.Modifier;
import java.nio.charset.StandardCharsets;
import java.nio.file.Files;
import java.nio.file.Path;
import java.util.Set;
import java.util.TreeSet;
import java.util.regex.Pattern;

/** That the class keeps to the parts of ../shared/LANGUAGE.md that a test can see. */
public final class LanguageTest {
  private static final String FACE = "mend of heights feed law cost order day days led run first lawful cheapest soonest"
    + " round lasts clean line drawn judge image back undo redo body act trace keep row put element shift taken count";

  public static void main(String[] args) throws Exception {
    face();
    inside();
    words(Files.readString(Path.of(args[0]), StandardCharsets.UTF_8));
    Due.end("LanguageTest");
  }

  private static void face() {
    Set<String> methods = new TreeSet<>();
    Class<?> c = DustCart.class;
    for (Method m : c.getDeclaredMethods()) {
      if (isSeen(m)) methods.add(m.getName());
    }
    Due.holds("the face's methods", methods.equals(new TreeSet<>(Set.of(FACE.split(" ")))));
    Set<String> fields = new TreeSet<>();
    for (Field f : c.getDeclaredFields()) {
      if (isSeen(f)) fields.add(f.getName());
    }
    Due.holds("the face's constants", fields.equals(new TreeSet<>(Set.of("BAD", "NOT", "FULL", "STATE", "VOID"))));
    Due.is("constructors", c.getDeclaredConstructors().length, 1);
    Due.holds("public and final", Modifier.isPublic(c.getModifiers()) && Modifier.isFinal(c.getModifiers()));
  }

  private static boolean isSeen(Member m) {
    return !m.isSynthetic() && !Modifier.isPrivate(m.getModifiers());
  }

  private static void inside() {
    Set<String> face = Set.of(FACE.split(" "));
    Class<?>[] inner = DustCart.class.getDeclaredClasses();
    Due.holds("classes", inner.length <= 11);
    for (Class<?> c : inner) {
      Due.holds(c + " is static", Modifier.isStatic(c.getModifiers()));
      Due.holds(c + " is not seen", !Modifier.isPublic(c.getModifiers()) && !Modifier.isProtected(c.getModifiers()));
      int fields = 0;
      for (Field f : c.getDeclaredFields()) {
        if (Modifier.isStatic(f.getModifiers())) Due.holds(f + " is final", Modifier.isFinal(f.getModifiers()));
        else fields++;
      }
      Due.holds(c + " fields", fields <= 20);
      for (Method m : c.getDeclaredMethods()) {
        Due.holds(m + " bears no name of the face", m.isSynthetic() || !face.contains(m.getName()));
        Due.holds(m + " parameters", m.getParameterCount() <= 7);
      }
    }
  }

  private static void words(String source) {
    String code = source.replaceAll("//[^\n]*", "").replaceAll("(?s)/\\*.*?\\*/", "");
    for (String word : new String[] {"throw", "try", "catch", "synchronized", "assert", "package", "native", "volatile"}) {
      Due.holds("no " + word, !Pattern.compile("\\b" + word + "\\b").matcher(code).find());
    }
    Due.holds("no lambda", !code.contains("->") && !code.contains("::"));
    Due.holds("no exact", !code.contains("Exact"));
    Due.holds("one import", code.split("\\bimport\\b").length <= 2 && code.contains("import java.util.Arrays;"));
    for (String line : source.split("\n")) Due.holds("short line: " + line, line.length() <= 120);
    for (int i = 0; i < source.length(); i++) {
      if (source.charAt(i) > 126) Due.holds("plain signs at " + i, false);
    }
  }
}
