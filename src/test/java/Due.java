/** What the tests share: telling a text, and counting answers that are not as due. */
final class Due {
  private static int wrong = 0;
  private static int seen = 0;

  static void is(String call, int got, int want) {
    seen++;
    if (got != want) {
      wrong++;
      System.out.println(call + " answered " + got + ", due is " + want);
    }
  }

  /** Ends the test: exit code 1, if any answer was not as due. */
  static void close(String test) {
    System.out.println(test + ": " + seen + " answers, " + wrong + " wrong");
    if (wrong != 0 || seen == 0) System.exit(1);
  }

  static int[] fives(String text, int from) {
    int[] five = new int[5];
    for (int k = 0; k < 20; k++) {
      int at = from + k;
      five[k / 4] = five[k / 4] << 8 | (at < text.length() ? text.charAt(at) & 255 : 0);
    }
    return five;
  }

  static void tell(LetOff x, String text) {
    for (int at = 0; at < text.length(); at += 20) {
      int[] f = fives(text, at);
      x.feed(f[0], f[1], f[2], f[3], f[4]);
    }
    x.end(text.length());
  }

  static int show(LetOff x, String text) { tell(x, text); return x.show(); }

  static int rule(LetOff x, String text) { tell(x, text); return x.rule(); }

  static LetOff shown(String text) {
    LetOff x = new LetOff();
    if (show(x, text) < 0) throw new IllegalStateException("no show: " + text);
    return x;
  }

  /** What show and rule answer to a fault. */
  static int fault(int place, int kind) { return -2 - (1 + 8 * place + kind); }
}
