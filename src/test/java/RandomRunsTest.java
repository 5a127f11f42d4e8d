import java.util.Random;

/** Drawn runs of calls, the same each time, answered by LetOff and by PlainModel alike. */
public final class RandomRunsTest {
  private static final int RUNS = 400;
  private static final int CALLS = 110;

  private final Random random;
  private final LetOff x = new LetOff();
  private final PlainModel m = new PlainModel();
  private final int run;

  private RandomRunsTest(int run) {
    this.run = run;
    this.random = new Random(1000 + run);
  }

  public static void main(String[] args) {
    for (int run = 0; run < RUNS; run++) new RandomRunsTest(run).go();
    Due.close("RandomRunsTest");
  }

  private void due(String call, int got, int want) { Due.is("run " + run + ": " + call, got, want); }

  private int below(int n) { return random.nextInt(n); }

  private void go() {
    tellShow();
    for (int k = below(4); k > 0; k--) tellRule();
    for (int k = 0; k < CALLS; k++) {
      int kind = below(100);
      if (kind < 2) tellShow();
      else if (kind < 5) tellRule();
      else if (kind < 45) act();
      else if (kind < 90) ask();
      else lookAtAll();
    }
    lookAtAll();
  }

  private void tell(String text) {
    if (below(50) == 0) due("end(" + text.length() + ")", x.end(text.length()), m.end(text.length()));
    for (int at = 0; at < text.length(); at += 20) {
      int[] f = Due.fives(text, at);
      due("feed", x.feed(f[0], f[1], f[2], f[3], f[4]), m.feed(f));
    }
    due("end", x.end(text.length()), m.end(text.length()));
  }

  private String blank() { return below(3) == 0 ? " ".repeat(below(3)) : ""; }

  /** Now and then something is wrong in the text. */
  private String spoilt(String text) {
    if (below(6) != 0 || text.isEmpty()) return text;
    int at = below(text.length());
    String odd = ";[]<=>+-*/% 09azgx\0\u00e9not and or if go";
    int from = below(odd.length());
    String put = odd.substring(from, Math.min(odd.length(), from + 1 + below(2)));
    return text.substring(0, at) + put + text.substring(at + below(2));
  }

  private void tellShow() {
    int cells = 3 + below(below(3) == 0 ? 18 : 6);
    StringBuilder b = new StringBuilder(blank() + "show" + blank() + " " + cells);
    int roads = below(12) == 0 ? 0 : 1 + below(Math.min(5, cells));
    for (int k = 0; k < roads; k++) {
      b.append(blank()).append(";road ").append(Math.min(cells - 1, k * cells / roads + below(2)));
      b.append(" ").append(1 + below(below(2) == 0 ? 20 : 4));
    }
    int others = below(9);
    for (int k = 0; k < others; k++) {
      if (below(4) == 0) b.append(";gap").append(blank()).append(below(cells));
      else if (roads > 0) b.append("; car ").append(below(cells)).append(" ").append(below(roads)).append(" ").append(below(61)).append(blank());
    }
    tell(spoilt(b.toString()));
    due("show() of " + b, x.show(), m.show());
    lookAtAll();
  }

  private String value() {
    String[] words = {"car", "road", "fuel", "waiting", "behind", "on", "off", "rounds", "every", "step"};
    if (below(60) == 0) return "99999*99999*99999*99999";
    return below(3) == 0 ? "" + below(below(3) == 0 ? 40 : 5) : words[below(10)];
  }

  private String sum() {
    StringBuilder b = new StringBuilder(value());
    for (int k = below(4); k > 1; k--) b.append(blank()).append("+-*/%".charAt(below(5))).append(blank()).append(value());
    return b.toString();
  }

  private String fact(int deep) {
    int kind = below(deep > 12 ? 1 : 8);
    if (kind == 1) return "not " + fact(deep + 1);
    if (kind == 2) return "[" + test(deep + 1) + "]";
    String[] signs = {"<", "<=", "=", ">=", ">"};
    return sum() + blank() + signs[below(5)] + blank() + sum();
  }

  private String test(int deep) {
    StringBuilder b = new StringBuilder(fact(deep));
    for (int k = below(3); k > 0; k--) b.append(below(2) == 0 ? " and " : " or ").append(fact(deep));
    return b.toString();
  }

  private void tellRule() {
    StringBuilder b = new StringBuilder();
    for (int k = below(4); k >= 0; k--) {
      b.append("go ").append(sum());
      if (below(4) != 0) b.append(" if ").append(test(0));
      if (k > 0) b.append(blank()).append(";").append(blank());
    }
    String text = spoilt(b.toString());
    tell(text.length() > 400 ? text.substring(0, 400) : text);
    due("rule() of " + text, x.rule(), m.rule());
    int r = below(m.rules.size() + 1) - 1;
    due("force(" + r + ")", x.force(r), m.force(r));
  }

  private int oneCar() { return below(8) - 1; }

  private int oneCell() { return below(22) - 1; }

  private void act() {
    int a = oneCar(), b = below(7) - 1, c = oneCell(), d = below(23) - 1;
    int kind = below(20);
    if (kind < 10) due("step()", x.step(), m.step());
    else if (kind == 10) due("pole(" + a + ", " + d + ")", x.pole(a, d), m.pole(a, d));
    else if (kind == 11) due("grass(" + a + ")", x.grass(a), m.grass(a));
    else if (kind == 12) due("fill(" + c + ")", x.fill(c), m.fill(c));
    else if (kind == 13) due("wish(" + a + ", " + b + ")", x.wish(a, b), m.wish(a, b));
    else if (kind == 14) for (int k = below(4); k >= 0; k--) due("undo()", x.undo(), m.undo());
    else if (kind == 15) due("image(" + b + ")", x.image(b), m.image(b));
    else if (kind == 16) due("back(" + b + ")", x.back(b), m.back(b));
    else if (kind == 17) tellNote();
    else if (kind == 18) due("force(" + b + ")", x.force(b), m.force(b));
    else due("seed(" + (c << 25) + ")", x.seed(c << 25), m.seed(c << 25));
  }

  /** Mostly a NOTE that is so by some RULE. */
  private void tellNote() {
    int n = below(below(3) == 0 ? 64 : 12) - 1, a = oneCar(), c = oneCell();
    if (m.begin != null && n >= 0 && below(4) != 0) {
      c = m.later(m.begin, below(m.rules.size() + 1) - 1, n).cellOf(a);
    }
    due("note(" + n + ", " + a + ", " + c + ")", x.note(n, a, c), m.note(n, a, c));
  }

  private void ask() {
    int a = oneCar(), b = oneCar(), w = below(5) - 1, n = below(43) - 1;
    int kind = below(17);
    if (kind == 0) due("ahead", x.ahead(a, 3 * n, w), m.ahead(a, 3 * n, w));
    else if (kind == 1) due("lets", x.lets(a), m.lets(a));
    else if (kind == 2) due("still", x.still(), m.still());
    else if (kind == 3) due("leastFuel", x.leastFuel(a, n), m.leastFuel(a, n));
    else if (kind == 4) due("bestGrass " + n, x.bestGrass(n, w), m.bestGrass(n, w));
    else if (kind == 5) due("bestFill " + n, x.bestFill(n, w), m.bestFill(n, w));
    else if (kind == 6) due("closed " + n, x.closed(n, w), m.closed(n, w));
    else if (kind == 7) askRow(w);
    else if (kind == 8) due("wished", x.wished(a, w), m.wished(a, w));
    else if (kind == 9) due("longest", x.longest(3 * n, w), m.longest(3 * n, w));
    else if (kind == 10) due("rests", x.rests(a, b, n / 2, w), m.rests(a, b, n / 2, w));
    else if (kind == 11) due("ring", x.ring(w), m.ring(w));
    else if (kind == 12) due("litres", x.litres(n * 37, a), m.litres(n * 37, a));
    else if (kind == 13) due("ruled", x.ruled(w), m.ruled(w));
    else if (kind == 14) due("look", x.look(n, w), m.look(n, w));
    else if (kind == 15) due("shows", x.shows(a + 2, n, 3 * n, w), m.shows(a + 2, n, 3 * n, w));
    else due("shows", x.shows(a + 2, n, 3 * n, w), m.shows(a + 2, n, 3 * n, w));
  }

  private void askRow(int w) {
    // The model tries 64 * 64 * 64 rows of three: only now and then.
    int n = below(12) == 0 ? 3 : below(3);
    due("row " + n + " " + w, x.row(n, w), m.row(n, w));
  }

  private void lookAtAll() {
    for (int car = -1; car < 7; car++) for (int w = -1; w < 5; w++) due("car(" + car + ", " + w + ")", x.car(car, w), m.car(car, w));
    for (int r = -1; r < 6; r++) for (int w = -1; w < 4; w++) due("road(" + r + ", " + w + ")", x.road(r, w), m.road(r, w));
    for (int c = -1; c < 21; c++) due("gapIn(" + c + ")", x.gapIn(c), m.gapIn(c));
    for (int w = -1; w < 15; w++) due("count(" + w + ")", x.count(w), m.count(w));
  }
}
