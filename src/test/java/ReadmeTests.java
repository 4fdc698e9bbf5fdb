import java.io.IOException;
import java.lang.reflect.Method;
import java.lang.reflect.Modifier;
import java.nio.charset.StandardCharsets;
import java.nio.file.Files;
import java.nio.file.Path;
import java.util.HashSet;
import java.util.Set;
import java.util.regex.Matcher;
import java.util.regex.Pattern;

/** README.md says how to use the class: each line of its example answers what it says behind //. */
public final class ReadmeTests {
  private static final Pattern SEA = Pattern.compile("String sea = \"([^\"]*)\";");
  private static final Pattern CALL = Pattern.compile("(?m)^x\\.(\\w+)\\(([^)]*)\\); *// (-?\\d+|[A-Z]+): ");
  private static int right, wrong;

  private static void check(String what, boolean is) {
    if (is) {
      right++;
    } else {
      wrong++;
      System.out.println("not so: " + what);
    }
  }

  private static Object number(Class<?> type, String word) {
    if (type == boolean.class) return Boolean.valueOf(word);
    if (type == long.class) return Long.valueOf(word);
    return Integer.valueOf(word);
  }

  private static long answer(StormHarbours x, String name, String words) throws ReflectiveOperationException {
    String[] parts = words.isEmpty() ? new String[0] : words.split(", ");
    for (Method m : StormHarbours.class.getDeclaredMethods()) {
      if (!m.getName().equals(name) || m.getParameterCount() != parts.length) continue;
      Object[] numbers = new Object[parts.length];
      for (int k = 0; k < parts.length; k++) numbers[k] = number(m.getParameterTypes()[k], parts[k]);
      return ((Number) m.invoke(x, numbers)).longValue();
    }
    throw new NoSuchMethodException(name);
  }

  private static long told(String word) throws ReflectiveOperationException {
    return Character.isLetter(word.charAt(0)) ? StormHarbours.class.getField(word).getInt(null) : Long.parseLong(word);
  }

  private static void example(String readme) throws ReflectiveOperationException {
    StormHarbours x = new StormHarbours();
    Matcher sea = SEA.matcher(readme);
    check("the example has a sea", sea.find());
    for (char c : sea.group(1).toCharArray()) x.write(1, c);
    Matcher call = CALL.matcher(readme);
    int lines = 0;
    while (call.find()) {
      lines++;
      long got = answer(x, call.group(1), call.group(2));
      check(call.group() + "it answers " + got, got == told(call.group(3)));
    }
    check("every line of the example was read", lines == readme.split("\nx\\.").length - 1 && lines > 0);
  }

  private static void everyCallIsTold(String readme) {
    Set<String> names = new HashSet<>();
    Matcher told = Pattern.compile("`(\\w+)\\([^`]*\\)`").matcher(readme);
    while (told.find()) names.add(told.group(1));
    for (Method m : StormHarbours.class.getDeclaredMethods()) {
      if (Modifier.isPublic(m.getModifiers())) check("README.md tells " + m.getName(), names.contains(m.getName()));
    }
  }

  public static void main(String[] args) throws IOException, ReflectiveOperationException {
    String readme = Files.readString(Path.of("README.md"), StandardCharsets.UTF_8);
    example(readme);
    everyCallIsTold(readme);
    System.out.println(right + " passed, " + wrong + " failed");
    if (wrong != 0) System.exit(1);
  }
}
