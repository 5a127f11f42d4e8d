import java.util.Arrays;
import java.util.function.IntSupplier;

/** What the tests share: telling a text, and counting answers that are not as due. */
final class Due {
  private static int wrong = 0;
  private static int seen = 0;
  private static String sentence = "";

  static void is(String call, int got, int want) {
    seen++;
    if (got != want) {
      wrong++;
      System.out.println(call + " answered " + got + ", due is " + want);
    }
  }

  /** The document's sentence that the answers from here on are about. */
  static void says(String words) { sentence = words; }

  static void due(String call, int got, int want) { is("\"" + sentence + "\": " + call, got, want); }

  /** All that can be read of an object without asking how it goes on. */
  static int[] all(LetOff x) {
    int[] seenNow = new int[14 + 6 * 4 + 5 * 3 + 20];
    int at = 0;
    for (int what = 0; what < 14; what++) seenNow[at++] = x.count(what);
    for (int car = 0; car < 6; car++) for (int what = 0; what < 4; what++) seenNow[at++] = x.car(car, what);
    for (int road = 0; road < 5; road++) for (int what = 0; what < 3; what++) seenNow[at++] = x.road(road, what);
    for (int cell = 0; cell < 20; cell++) seenNow[at++] = x.gapIn(cell);
    return seenNow;
  }

  /** A call that is refused, or only asks: its answer is due, and nothing happens. */
  static void unmoved(LetOff x, String call, IntSupplier made, int want) {
    int[] before = all(x);
    due(call, made.getAsInt(), want);
    due("nothing happens by " + call, Arrays.equals(before, all(x)) ? 1 : 0, 1);
  }

  /** Ends the test: exit code 1, if any answer was not as due. */
  static void close(String test) {
    System.out.println(test + ": " + seen + " answers, " + wrong + " wrong");
    if (wrong != 0 || seen == 0) System.exit(1);
  }

  static int[] fives(String text, int from) {
    int[] five = new int[5];
    for (int k = 0; k < 20; k++) {
      int at = from + k;
      five[k / 4] = five[k / 4] << 8 | (at < text.length() ? text.charAt(at) & 255 : 0);
    }
    return five;
  }

  static void tell(LetOff x, String text) {
    for (int at = 0; at < text.length(); at += 20) {
      int[] f = fives(text, at);
      x.feed(f[0], f[1], f[2], f[3], f[4]);
    }
    x.end(text.length());
  }

  static int show(LetOff x, String text) { tell(x, text); return x.show(); }

  static int rule(LetOff x, String text) { tell(x, text); return x.rule(); }

  static LetOff shown(String text) {
    LetOff x = new LetOff();
    if (show(x, text) < 0) throw new IllegalStateException("no show: " + text);
    return x;
  }

  /** The same, with a RULE that is IN FORCE. */
  static LetOff ruled(String text, String rule) {
    LetOff x = shown(text);
    if (rule(x, rule) != 0) throw new IllegalStateException("no rule: " + rule);
    x.force(0);
    return x;
  }

  static void steps(LetOff x, int n) { for (int k = 0; k < n; k++) x.step(); }

  /** What show and rule answer to a fault. */
  static int fault(int place, int kind) { return -2 - (1 + 8 * place + kind); }
}
