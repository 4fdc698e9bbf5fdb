import java.io.IOException;
import java.nio.charset.StandardCharsets;
import java.nio.file.Files;
import java.nio.file.Path;

/**
 * What the tests of the boundary cases share. Each test names its promise, quotes the words of the
 * document that it holds the program to, and says at which edge of them it stands.
 */
final class Bounds {
  static final int BAD = -1, NO = -2, FULL = -3, NONE = -4;
  static final long LEAST = Long.MIN_VALUE;

  /** Numbers that are told nowhere in the document. */
  static final int[] FAR = {Integer.MIN_VALUE, -1000, -1, 1000, 65536, Integer.MAX_VALUE};

  interface Body {
    void run();
  }

  private static final String DOCUMENT = document();
  private static int passed, failed;
  private static String title = "";
  private static boolean right;

  private Bounds() { }

  private static String document() {
    Path path = Path.of("..", "shared", "DOC.md");
    try {
      return Files.exists(path) ? spaced(Files.readString(path, StandardCharsets.UTF_8)) : "";
    } catch (IOException e) {
      return "";
    }
  }

  private static String spaced(String words) {
    return words.replaceAll("\\s+", " ");
  }

  static void test(int promise, String quote, String edge, Body body) {
    title = "promise " + promise + ", \"" + quote + "\", " + edge;
    right = true;
    if (!DOCUMENT.isEmpty() && !DOCUMENT.contains(spaced(quote))) wrong("the document has no such words");
    if (!DOCUMENT.isEmpty() && !DOCUMENT.contains("## Promise " + promise + ":")) wrong("the document has no such promise");
    try {
      body.run();
    } catch (Throwable thrown) {
      // No call may throw: what comes here is an answer that is not due.
      wrong("threw " + thrown);
    }
    if (right) passed++; else failed++;
  }

  private static void wrong(String what) {
    right = false;
    System.out.println(title + ": " + what);
  }

  static void due(String call, long got, long want) {
    if (got != want) wrong(call + " answered " + got + ", due is " + want);
  }

  static void due(String what, boolean is) {
    if (!is) wrong(what + " is not so");
  }

  static void end() {
    System.out.println(passed + " boundary tests passed, " + failed + " failed");
    if (failed != 0 || passed == 0) System.exit(1);
  }

  /** Eight bytes a call, as an object is good for 512 calls alone. */
  static void write(StormHarbours x, String text) {
    for (int at = 0; at < text.length(); ) {
      int n = Math.min(8, text.length() - at);
      x.write(n, packed(text.substring(at, at + n)));
      at += n;
    }
  }

  /** At most eight signs as the lowest bytes of a number, the first sign the highest of them. */
  static long packed(String signs) {
    long v = 0;
    for (int k = 0; k < signs.length(); k++) v = v << 8 | signs.charAt(k);
    return v;
  }

  static StormHarbours told(String text) {
    StormHarbours x = new StormHarbours();
    write(x, text);
    return x;
  }

  static StormHarbours laid(String text) {
    StormHarbours x = told(text);
    due("fault of " + text, x.fault(), NONE);
    due("lay of " + text, x.lay() > 0);
    return x;
  }

  static int faultOf(String text) {
    return told(text).fault();
  }

  static int layOf(String text) {
    return told(text).lay();
  }

  /** A sea of so many HARBOURS, SORTS (of n boats) and STORMS, the last of 10 tenths. */
  static String many(int harbours, int sorts, int n, int storms) {
    return "h9,9,10,0;".repeat(harbours) + ("b" + n + ",5,1,10,1;").repeat(sorts)
        + "s0,0,1,0,0,0;".repeat(storms - 1) + "s10,0,1,0,0,0;";
  }
}
