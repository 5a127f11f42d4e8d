/** Each sentence of the document's part I, and of promises 1 to 6, that names a boundary. */
public final class TextBoundariesTest {
  private static final String FIVE_ROADS = "show 20;road 19 1;road 0 20;road 7 2;road 3 3;road 11 4";
  private static final String SIX_CARS = "show 20;road 0 1;car 9 0 1;car 2 0 2;car 3 0 3;car 14 0 4;car 5 0 5;car 6 0 6";
  /** -2^63, as far as a text can tell it. */
  private static final String LEAST = "65536*65536*65536*32768";

  public static void main(String[] args) {
    newObject();
    tape();
    tapeCut();
    bytesOfAText();
    showClauses();
    longOfAShow();
    firstClause();
    cellsOfRoads();
    every();
    cellsOfCars();
    roadsOfCars();
    fuel();
    gaps();
    roadsAndCarsInOrder();
    begin();
    showInPlaceOfAnother();
    ruleClauses();
    numbers();
    words();
    behind();
    waitingAndRounds();
    onAndOff();
    division();
    roundIn64Bits();
    blanks();
    depth();
    sixty();
    whatCannotStand();
    wrongNumbers();
    wrongClauses();
    firstFaultLeastKind();
    sixRules();
    force();
    Due.close("TextBoundariesTest");
  }

  private static void due(String call, int got, int want) { Due.due(call, got, want); }

  private static void shows(String text, int want) {
    LetOff x = new LetOff();
    due("show() of " + text, Due.show(x, text), want);
    due("the TAPE is empty behind " + text, x.count(13), 0);
    due("LONG behind " + text, x.count(0) > 0 ? 1 : 0, want >= 0 ? 1 : 0);
  }

  private static void rules(String text, int want) {
    LetOff x = new LetOff();
    due("rule() of " + text, Due.rule(x, text), want);
    due("the TAPE is empty behind " + text, x.count(13), 0);
    due("RULES behind " + text, x.count(3), want == 0 ? 1 : 0);
  }

  /** Whether CAR 0, which stands where it WANTS in a show like that, goes OFF in STEP 0. */
  private static void lets(String show, String rule, boolean want) {
    due("step() of " + show + " by " + rule, Due.ruled(show, rule).step() & 1, want ? 1 : 0);
  }

  private static void lets(String rule, boolean want) { lets("show 7;road 3 20;car 3 0 9", rule, want); }

  private static void newObject() {
    Due.says("No SHOW, no RULES, none IN FORCE.");
    LetOff x = new LetOff();
    for (int what : new int[] {0, 1, 2, 3, 5, 6, 7, 8, 9, 10, 11, 12, 13}) due("count(" + what + ")", x.count(what), 0);
    due("count(4)", x.count(4), -1);
    Due.unmoved(x, "force(0)", () -> x.force(0), -2);
    Due.unmoved(x, "car(0, 0)", () -> x.car(0, 0), -2);
    Due.unmoved(x, "show() of an empty TAPE", x::show, Due.fault(0, 0));
    Due.unmoved(x, "rule() of an empty TAPE", x::rule, Due.fault(0, 0));
  }

  private static void tape() {
    Due.says("NONE, and none comes, if it would have more than 400.");
    LetOff x = new LetOff();
    for (int k = 1; k <= 19; k++) due("feed", x.feed(0x20202020, 0x20202020, 0x20202020, 0x20202020, 0x20202020), 20 * k);
    due("feed of show 7", x.feed(0x20202020, 0x20202020, 0x20202020, 0x20207368, 0x6f772037), 400);
    Due.unmoved(x, "feed, full", () -> x.feed(0, 0, 0, 0, 0), -1);
    due("show()", x.show(), 0);
    due("count(0)", x.count(0), 7);
    LetOff y = new LetOff();
    Due.tell(y, "show 8" + " ".repeat(394));
    due("end(381)", y.end(381), 381);
    Due.unmoved(y, "feed, one byte too many", () -> y.feed(0, 0, 0, 0, 0), -1);
    due("end(381)", y.end(381), 381);
    due("show(): no byte came", y.show(), 0);
    Due.tell(y, " ".repeat(400));
    y.end(380);
    due("feed, just full", y.feed(0, 0, 0, 0, 0), 400);
    Due.says("of each number the highest first");
    LetOff z = new LetOff();
    z.feed(0x73686f77, 0x20392020, 0x20202020, 0x20202020, 0x20fffefd);
    due("show(): the byte 255 stands at 17", z.show(), Due.fault(17, 0));
    z.feed(0x73686f77, 0x20392020, 0x20202020, 0x20202020, 0x80000000);
    due("show(): the byte 128 stands at 16", z.show(), Due.fault(16, 0));
  }

  private static void tapeCut() {
    Due.says("NONE, and nothing happens, if it has not so many, or n is below 0.");
    LetOff x = new LetOff();
    Due.unmoved(x, "end(0), empty", () -> x.end(0), 0);
    Due.unmoved(x, "end(1), empty", () -> x.end(1), -1);
    Due.tell(x, "show 3;gap 1");
    Due.unmoved(x, "end(13)", () -> x.end(13), -1);
    Due.unmoved(x, "end(20), fed but cut off", () -> x.end(20), -1);
    Due.unmoved(x, "end(-1)", () -> x.end(-1), -1);
    Due.unmoved(x, "end(least)", () -> x.end(Integer.MIN_VALUE), -1);
    Due.unmoved(x, "end(most)", () -> x.end(Integer.MAX_VALUE), -1);
    Due.unmoved(x, "end(12), all of it", () -> x.end(12), 12);
    Due.says("The TAPE has its first n bytes alone: n");
    due("end(6)", x.end(6), 6);
    due("feed behind the first 6", x.feed(0x3b676170, 0x20322020, 0x20202020, 0x20202020, 0x20202020), 26);
    due("show()", x.show(), 0);
    due("gapIn(1)", x.gapIn(1), 0);
    due("gapIn(2)", x.gapIn(2), 1);
  }

  private static void bytesOfAText() {
    Due.says("A SHOW is a text of at most 400 bytes");
    LetOff x = Due.shown("show 3" + " ".repeat(388) + ";gap 2");
    due("gapIn(2), told by the 400th byte", x.gapIn(2), 1);
    shows(" ".repeat(394) + "show 3", 0);
    shows(" ".repeat(400), Due.fault(400, 0));
    shows("show 3" + " ".repeat(393) + "x", Due.fault(399, 0));
    shows("show 3" + " ".repeat(393) + ";", Due.fault(400, 0));
    shows(" ".repeat(397) + "sho", Due.fault(397, 0));
    rules(" ".repeat(399) + "g", Due.fault(399, 0));
    rules(" ".repeat(396) + "go 1", 0);
    rules("go 1" + " ".repeat(395) + "+", Due.fault(400, 0));
    lets("go 0" + " ".repeat(394) + "+1", true);
  }

  private static void showClauses() {
    Due.says("CLAUSE { ; CLAUSE }, 40 at most");
    String forty = "show 3;road 0 1" + ";gap1".repeat(38);
    shows(forty, 0);
    int behind = forty.length() + 1;
    for (String more : new String[] {"gap 1", "road 1 1", "car 2 0 1", "show 3", "gap"}) {
      shows(forty + ";" + more, Due.fault(behind, 4));
      shows(forty + ";  " + more, Due.fault(behind + 2, 4));
    }
    shows(forty + ";gaps 1", Due.fault(behind, 0));
    shows(forty + ";", Due.fault(behind, 0));
    shows(forty + ";;", Due.fault(behind, 0));
    shows(";show 3", Due.fault(0, 0));
    shows("show 3;;gap 0", Due.fault(7, 0));
    shows("show 3;", Due.fault(7, 0));
    shows("", Due.fault(0, 0));
  }

  private static void longOfAShow() {
    Due.says("LONG 3 to 20, CELLS");
    for (int cells = 3; cells <= 20; cells++) due("count(0)", Due.shown("show " + cells).count(0), cells);
    for (int wrong : new int[] {0, 1, 2, 21, 32, 99999}) shows("show " + wrong, Due.fault(5, 1));
    LetOff least = Due.shown("show 3;gap 2");
    LetOff most = Due.shown("show 20;gap 19");
    due("gapIn(2) of 3", least.gapIn(2), 1);
    due("gapIn(3) of 3", least.gapIn(3), -1);
    due("gapIn(19) of 20", most.gapIn(19), 1);
    due("gapIn(20) of 20", most.gapIn(20), -1);
    due("gapIn(-1)", most.gapIn(-1), -1);
  }

  private static void firstClause() {
    Due.says("once, the first CLAUSE");
    shows("show 3;show 3", Due.fault(7, 4));
    shows("show 3;gap 0;  show 4", Due.fault(15, 4));
    shows("road 0 1;show 3", Due.fault(0, 4));
    shows("  car 0 0 0", Due.fault(2, 4));
    shows("gap 0", Due.fault(0, 4));
    shows("gap", Due.fault(0, 4));
  }

  private static void cellsOfRoads() {
    Due.says("the CELL at which it comes in, of no ROAD told ahead");
    shows("show 3;road 0 1;road 2 1;road 1 1", 0);
    shows("show 3;road 3 1", Due.fault(12, 1));
    shows("show 20;road 19 1", 0);
    shows("show 20;road 20 1", Due.fault(13, 1));
    shows("show 20;road 0 1;road 19 1;road 0 1", Due.fault(32, 1));
    shows("show 20;road 0 1;road 19 1;road 19 1", Due.fault(32, 1));
    shows("show 20;road 0 1;road 32 1", Due.fault(22, 1));
    shows("show 20;road 0 1;road 00 1", Due.fault(22, 1));
    shows("show 4;gap 0;road 0 1;car 1 0 1;road 1 1", 1);
  }

  private static void every() {
    Due.says("EVERY 1 to 20");
    shows("show 3;road 0 0", Due.fault(14, 1));
    shows("show 3;road 0 21", Due.fault(14, 1));
    due("road(0, 1)", Due.shown("show 3;road 0 1").road(0, 1), 1);
    due("road(0, 1)", Due.shown("show 3;road 0 20").road(0, 1), 20);
  }

  private static void cellsOfCars() {
    Due.says("a CELL with no car and no gap told ahead");
    shows("show 3;road 0 1;car 0 0 1;car 2 0 1;car 1 0 1", 3);
    shows("show 3;road 0 1;car 3 0 1", Due.fault(20, 1));
    shows("show 20;road 0 1;car 19 0 1", 1);
    shows("show 20;road 0 1;car 20 0 1", Due.fault(21, 1));
    shows("show 20;road 0 1;car 19 0 1;car 1 0 1;car 19 0 1", Due.fault(42, 1));
    shows("show 20;road 0 1;gap 19;car 19 0 1", Due.fault(28, 1));
    shows("show 20;road 0 1;gap 0;car 0 0 1", Due.fault(27, 1));
  }

  private static void roadsOfCars() {
    Due.says("the ROAD it WANTS, that was told");
    shows("show 3;car 0 0 1", Due.fault(13, 1));
    shows("show 3;car 0 0 1;road 0 1", Due.fault(13, 1));
    shows("show 3;road 0 1;car 0 1 1;road 1 1", Due.fault(22, 1));
    shows("show 3;road 0 1;road 1 1;car 0 1 1", 1);
    shows(FIVE_ROADS + ";car 1 4 1", 1);
    shows(FIVE_ROADS + ";car 1 5 1", Due.fault(FIVE_ROADS.length() + 7, 1));
  }

  private static void fuel() {
    Due.says("FUEL 0 to 60");
    due("car(0, 2)", Due.shown("show 3;road 0 1;car 0 0 0").car(0, 2), 0);
    due("car(0, 2)", Due.shown("show 3;road 0 1;car 0 0 60").car(0, 2), 60);
    shows("show 3;road 0 1;car 0 0 61", Due.fault(24, 1));
    shows("show 3;road 0 1;car 0 0", Due.fault(23, 0));
  }

  private static void gaps() {
    Due.says("a CELL with no car told ahead; told already: nothing new");
    LetOff x = Due.shown("show 20;road 0 1;gap 0;gap 19;gap 19;gap 0;gap 19");
    due("count(8)", x.count(8), 2);
    due("gapIn(0), where a ROAD comes in", x.gapIn(0), 1);
    due("gapIn(19)", x.gapIn(19), 1);
    shows("show 3;gap 3", Due.fault(11, 1));
    shows("show 20;gap 20", Due.fault(12, 1));
    shows("show 20;road 0 1;car 19 0 1;gap 19", Due.fault(32, 1));
    shows("show 3;road 0 1;car 0 0 1;gap 0", Due.fault(30, 1));
    LetOff full = Due.shown("show 3;gap 0;gap 1;gap 2");
    due("count(8), all CELLS", full.count(8), 3);
  }

  private static void roadsAndCarsInOrder() {
    Due.says("ROADS 0 to 4, CARS 0 to 5, in the order told.");
    LetOff x = Due.shown(FIVE_ROADS);
    int[] cells = {19, 0, 7, 3, 11};
    int[] everies = {1, 20, 2, 3, 4};
    for (int road = 0; road < 5; road++) {
      due("road(" + road + ", 0)", x.road(road, 0), cells[road]);
      due("road(" + road + ", 1)", x.road(road, 1), everies[road]);
    }
    due("count(1)", x.count(1), 5);
    due("count(2)", x.count(2), 0);
    due("road(5, 0)", x.road(5, 0), -1);
    shows(FIVE_ROADS + "; road 1 1", Due.fault(FIVE_ROADS.length() + 2, 4));
    shows(FIVE_ROADS + ";road", Due.fault(FIVE_ROADS.length() + 1, 4));
    LetOff y = Due.shown(SIX_CARS);
    int[] at = {9, 2, 3, 14, 5, 6};
    for (int car = 0; car < 6; car++) {
      due("car(" + car + ", 0)", y.car(car, 0), at[car]);
      due("car(" + car + ", 2)", y.car(car, 2), car + 1);
    }
    due("count(2)", y.count(2), 6);
    due("car(6, 0)", y.car(6, 0), -2);
    shows(SIX_CARS + ";car 7 0 1", Due.fault(SIX_CARS.length() + 1, 4));
    shows(SIX_CARS + ";car", Due.fault(SIX_CARS.length() + 1, 4));
  }

  private static void begin() {
    Due.says("It is STEP 0; all these are ON, others can come; nobody waits at any ROAD.");
    LetOff none = Due.shown("show 3");
    due("count(6)", none.count(6), 0);
    LetOff six = Due.shown(SIX_CARS);
    due("count(6)", six.count(6), 63);
    for (int what : new int[] {5, 7, 8, 9, 10, 11}) due("count(" + what + ")", six.count(what), 0);
    LetOff one = Due.shown("show 5;road 0 1;car 2 0 9");
    due("count(6)", one.count(6), 1);
    due("car(1, 0)", one.car(1, 0), -1);
    one.step();
    due("count(6), another came", one.count(6), 3);
    due("car(0, 3)", Due.shown("show 5;road 0 1;car 2 0 9").car(0, 3), 0);
  }

  private static void showInPlaceOfAnother() {
    LetOff x = Due.ruled("show 6;road 0 5;road 3 4;gap 4;car 1 1 9;car 5 0 9", "go 1");
    x.seed(77);
    x.step();
    x.grass(0);
    x.note(0, 0, 1);
    x.image(2);
    Due.says("-2 - its FAULT, and all stays.");
    int[] before = Due.all(x);
    for (String text : new String[] {"", "show 2", "show 3;road 0 1;car 0 0 61", "show 9;gap 1;gap 1;gop 2"}) {
      due("show() of " + text + " is a FAULT", Due.show(x, text) <= -3 ? 1 : 0, 1);
      due("all stays", java.util.Arrays.equals(before, Due.all(x)) ? 1 : 0, 1);
    }
    due("undo(), too", x.undo(), 1);
    due("wished(0, 0), by the text and the NOTE there were", x.wished(0, 0), 2);
    Due.says("in place of the one there was (no NOTES, nothing to be UNDONE; the RULE IN FORCE and x stay)");
    due("show()", Due.show(x, "show 4"), 0);
    int[] counts = {4, 0, 0, 1, 0, 0, 0, 0, 0, 0, 0, 0, 77, 0};
    for (int what = 0; what < 14; what++) due("count(" + what + ")", x.count(what), counts[what]);
    due("undo()", x.undo(), -1);
    for (int car = 0; car < 6; car++) due("car(" + car + ", 0)", x.car(car, 0), -1);
    due("gapIn(4)", x.gapIn(4), -1);
    due("road(0, 0)", x.road(0, 0), -1);
  }

  private static void ruleClauses() {
    Due.says("texts likewise, 12 CLAUSES at most: go SUM [ if TEST ]");
    String eleven = "go 0 if 1=2;".repeat(11);
    lets(eleven + "go 1", true);
    lets("go 0 if 1=2;".repeat(10) + "go 1", true);
    rules(eleven + "go 1;go 1", Due.fault(137, 4));
    rules(eleven + "go 1; go", Due.fault(138, 4));
    rules(eleven + "go 1;if", Due.fault(137, 0));
    rules(eleven + "go 1;", Due.fault(137, 0));
    rules(";go 1", Due.fault(0, 0));
    rules("go 1;;go 1", Due.fault(5, 0));
    rules("if 1=1", Due.fault(0, 0));
    rules("go 1 if 1=1 if 1=1", Due.fault(12, 0));
    rules("go 1 if", Due.fault(7, 0));
    rules("go 1 if ;go 1", Due.fault(8, 0));
    rules("go if 1=1", Due.fault(3, 0));
    rules("go 1 if 1", Due.fault(9, 0));
    rules("go 1 = 1", Due.fault(5, 0));
    Due.says("FACT: not FACT | [ TEST ] (these brackets are signs) | SUM SIGN SUM, SIGN one of < <= = >= >");
    rules("go 1 if []", Due.fault(9, 0));
    rules("go 1 if not", Due.fault(11, 0));
    rules("go 1 if [1=1]]", Due.fault(13, 0));
    rules("go 1 if [1=1", Due.fault(12, 0));
    rules("go 1 if [1]=1", Due.fault(10, 0));
    rules("go [1]", Due.fault(3, 0));
    rules("go 1 if 1==1", Due.fault(10, 0));
    rules("go 1 if 1<>1", Due.fault(10, 0));
    rules("go 1 if 1!1", Due.fault(9, 0));
    lets("go 1 if 1=1 or 1=2 or 1=2", true);
    lets("go 1 if 1=2 or 1=2 or 1=1 and 1=1", true);
    lets("go 1 if 1=2 or 1=1 and 1=2 or 1=2", false);
    int[][] sides = {{1, 2}, {2, 2}, {2, 1}};
    String[] signs = {"<", "<=", "=", ">=", ">"};
    boolean[][] holds = {{true, true, false, false, false}, {false, true, true, true, false}, {false, false, false, true, true}};
    for (int side = 0; side < 3; side++)
      for (int k = 0; k < 5; k++) lets("go 1 if " + sides[side][0] + signs[k] + sides[side][1], holds[side][k]);
  }

  private static void numbers() {
    Due.says("NUMBER (1 to 5 digits, as far as digits go on)");
    lets("go 0", false);
    lets("go 1", true);
    lets("go 00000", false);
    lets("go 00001", true);
    lets("go 1 if 99999 = 99998 + 1 and 99999 > 99998", true);
    rules("go 000000", Due.fault(3, 1));
    rules("go 100000", Due.fault(3, 1));
    rules("go 4294967297", Due.fault(3, 1));
    rules("go 1" + "0".repeat(390), Due.fault(3, 1));
    rules("go 1 1", Due.fault(5, 0));
    rules("go 12345 6", Due.fault(9, 0));
    shows("show 00020", 0);
    shows("show 000020", Due.fault(5, 1));
    shows("show 3" + "0".repeat(390), Due.fault(5, 1));
    shows("show 3;road 000000 1", Due.fault(12, 1));
  }

  private static void words() {
    Due.says("WORDS (small letters, as far as these go on)");
    for (String word : new String[] {"car", "road", "fuel", "waiting", "behind", "on", "off", "rounds", "every", "step"}) {
      rules("go " + word, 0);
      rules("go 1 if 1=" + word + "or 1=1", Due.fault(10, 0));
      rules("go " + word + "s", Due.fault(3, 0));
      rules("go " + word.substring(0, word.length() - 1), Due.fault(3, 0));
      rules("go " + word + "1", Due.fault(3 + word.length(), 0));
      rules("go " + word + "S", Due.fault(3 + word.length(), 0));
    }
    rules("goon", Due.fault(0, 0));
    rules("go on", 0);
    rules("go1", 0);
    rules("g", Due.fault(0, 0));
    rules("Go 1", Due.fault(0, 0));
    rules("go z", Due.fault(3, 0));
    rules("go {", Due.fault(3, 0));
    rules("go `", Due.fault(3, 0));
    rules("go 1 if 1=1 nor 1=1", Due.fault(12, 0));
    shows("showz 3", Due.fault(0, 0));
    shows("sho 3", Due.fault(0, 0));
    shows("show{3", Due.fault(4, 0));
    shows("show3", 0);
  }

  private static void behind() {
    Due.says("behind (how many CELLS back along the ring the next CAR is, LONG if there is none)");
    lets("show 3;road 0 20;car 0 0 9", "go 1 if behind = 3", true);
    lets("show 20;road 19 20;car 19 0 9", "go 1 if behind = 20", true);
    for (int cell = 1; cell < 20; cell++) {
      lets("show 20;road 0 20;car 0 0 9;car " + cell + " 0 9", "go 1 if behind = " + (20 - cell), true);
      lets("show 20;road 19 20;car 19 0 9;car " + (19 - cell) + " 0 0", "go 1 if behind = " + cell, true);
    }
    lets("show 9;road 4 20;car 4 0 9;car 1 0 9;car 3 0 9;car 5 0 9", "go 1 if behind = 1", true);
    lets("show 9;road 4 20;car 4 0 9;car 5 0 9;gap 3", "go 1 if behind = 8", true);
    // By CAR 1's turn CAR 0 has gone on to the CELL that is 2 behind it.
    LetOff x = Due.ruled("show 9;road 4 20;car 1 0 9;car 4 0 9", "go 1 if behind = 2");
    due("step(): as all is then", x.step(), 2);
  }

  private static void waitingAndRounds() {
    Due.says("waiting (how many wait at that ROAD)");
    String stuck = "show 3;road 0 1;road 2 20;gap 1;gap 2;car 0 0 9";
    for (int n : new int[] {0, 1, 98, 99, 100}) {
      LetOff x = Due.ruled(stuck, "go 0");
      Due.steps(x, n);
      Due.rule(x, "go 1 if waiting = " + Math.min(n, 99));
      x.force(1);
      due("step() as " + n + " came", x.step(), 1);
    }
    Due.says("every (of that ROAD), step");
    lets("show 3;road 1 1;road 0 20;car 0 1 9", "go 1 if every = 20 and step = 0 and road = 1", true);
    lets("show 3;road 1 20;road 0 1;car 0 1 9", "go 1 if every = 1", true);
    Due.says("rounds (how many STEPS it was ON ahead of this one, by LONG divided)");
    for (int k = 0; k <= 7; k++) {
      LetOff x = Due.ruled(stuck, "go 0");
      Due.steps(x, k);
      Due.rule(x, "go 1 if rounds = " + k / 3);
      x.force(1);
      due("step() in STEP " + k, x.step(), 1);
    }
  }

  private static void onAndOff() {
    Due.says("on (how many CARS are ON), off (how many went OFF so far)");
    lets("show 20;road 0 20;car 0 0 9", "go 1 if on = 1 and off = 0", true);
    String six = "show 20;road 0 20;car 0 0 9;car 2 0 0;car 3 0 0;car 5 0 0;car 7 0 0;car 9 0 0";
    lets(six, "go 1 if on = 6 and off = 0", true);
    LetOff x = Due.ruled(six, "go 1 if on = 1 and off = 5");
    for (int car = 1; car <= 5; car++) {
      due("step() when " + (car - 1) + " went over the GRASS", x.step(), 0);
      x.undo();
      x.grass(car);
    }
    due("step() when five went over the GRASS", x.step(), 1);
  }

  private static void division() {
    Due.says("/ is towards 0, % its rest, both 0 by 0");
    lets("go 1 if 7/2 = 3 and 7%2 = 1 and 6/7 = 0 and 6%7 = 6", true);
    lets("go 1 if 99999/1 = 99999 and 99999%1 = 0", true);
    lets("go 1 if 7/0 = 0 and 7%0 = 0 and 0/0 = 0 and 0%0 = 0", true);
    lets("go 1 if 7/waiting = 0 and 7%off = 0", true);
    lets("go 5/0+1", true);
    lets("go 5/0*7", false);
    lets("go 5%0", false);
    // Only what went round can be below 0 ahead of / or %: -2^63 by 3 is -3074457345618258602, rest -2.
    lets("go 1 if " + LEAST + "/3*3 = " + LEAST + "+2", true);
    lets("go 1 if " + LEAST + "%3+2 = 0", true);
    lets("go 1 if " + LEAST + "/0 = 0 and " + LEAST + "%0 = 0", true);
  }

  private static void roundIn64Bits() {
    Due.says("all goes round in 64 bits");
    lets("go " + LEAST, false);
    lets("go " + LEAST + "-1", true);
    lets("go " + LEAST + "-1+1", false);
    lets("go " + LEAST + "*2", false);
    lets("go " + LEAST + "+" + LEAST, false);
    lets("go " + LEAST + "+" + LEAST + "+1", true);
    lets("go 65536*32768", true);
    lets("go 65536*65536", true);
    lets("go 0-1", false);
    lets("go 1 if 0-" + LEAST + " = " + LEAST, true);
    lets("go 1 if 65536*65536*65536*65536 = 0 and 65536*65536*65536*16384*2 < 0", true);
  }

  private static void blanks() {
    Due.says("Blanks (32) stand between as one likes.");
    shows("show3;road0 1;car1 0 9;gap2", 1);
    shows("   show   3  ;  road  0   1 ; car 1  0 9   ;gap    2   ", 1);
    rules("go1+1*2if1<=1and not[2>=1or1=1]", 0);
    rules("  go  1  +  1  if  not  [  1  <=  1  ]  ;  go  1  ", 0);
    for (String other : new String[] {"\t", "\n", "\r", "\0", "\u000b", "\u00a0"}) {
      shows("show" + other + "3", Due.fault(4, 0));
      rules("go 1" + other, Due.fault(4, 0));
    }
    shows("sh ow 3", Due.fault(0, 0));
    shows("show 3;gap 0 0", Due.fault(13, 0));
    shows("show 2 0", Due.fault(5, 1));
    rules("g o 1", Due.fault(0, 0));
    rules("go 1 if 1 < = 1", Due.fault(12, 0));
    rules("go 1 if 1 > = 1", Due.fault(12, 0));
    rules("go roundsoff", Due.fault(3, 0));
  }

  private static void depth() {
    Due.says("[ and not lie within one another 10 deep at most");
    String ten = "[".repeat(10) + "1=1" + "]".repeat(10);
    lets("go 1 if " + ten, true);
    lets("go 1 if " + "not ".repeat(10) + "1=1", true);
    lets("go 1 if " + "not ".repeat(9) + "1=1", false);
    lets("go 1 if " + "not[".repeat(5) + "1=2" + "]".repeat(5), true);
    lets("go 1 if " + ten + " and " + ten + " and [not " + "[".repeat(8) + "1=2" + "]".repeat(8) + "]", true);
    lets("go 0 if not " + ten.substring(1, 22) + ";go 1 if " + ten, true);
    Due.says("2 too deep (at the sign that opens, or the word not)");
    rules("go 1 if [" + ten + "]", Due.fault(18, 2));
    rules("go 1 if not " + ten, Due.fault(21, 2));
    rules("go 1 if " + "[".repeat(10) + " not 1=1", Due.fault(19, 2));
    rules("go 1 if " + "not ".repeat(11) + "1=1", Due.fault(48, 2));
    rules("go 1 if " + "not ".repeat(10) + " [1=1]", Due.fault(49, 2));
    rules("go 1 if " + "[".repeat(10) + "1=1 and [1=1]", Due.fault(26, 2));
    rules("go 1 if " + ten + " or " + "[".repeat(11), Due.fault(45, 2));
    rules("go 1;go 1 if " + "[".repeat(390 - 13), Due.fault(23, 2));
  }

  private static void sixty() {
    Due.says("at most 60 VALUES (of SUMS) and FACTS made of a SIGN, together");
    lets("go 0" + "+0".repeat(58) + "+1", true);
    // 3 of each FACT made of a SIGN: 57 and 1 and 2; brackets and not are none.
    lets("go 1" + "+0".repeat(56) + " if not [not [1=1]]", true);
    String nineteen = "1=1" + " and 1=1".repeat(18);
    lets("go 1+0+0 if " + nineteen, true);
    Due.says("3 one VALUE or FACT too many (at its first byte; of a FACT at its SIGN)");
    rules("go 1" + "+1".repeat(59) + " + 1", Due.fault(125, 3));
    rules("go 1" + "+1".repeat(59) + " + fuel", Due.fault(125, 3));
    rules("go 1" + "+1".repeat(59) + " if 1=1", Due.fault(126, 3));
    rules("go 1" + "+1".repeat(58) + " if 1 <= 1", Due.fault(126, 3));
    rules("go 1" + "+1".repeat(57) + " if 1 <= 1", Due.fault(127, 3));
    rules("go 1+0+0+0 if " + nineteen, Due.fault(14 + 19 * 8 - 6, 3));
    rules("go 1+0+0 if " + nineteen + ";  go 1", Due.fault(12 + 19 * 8 - 5 + 6, 3));
    // Each RULE has 60 of its own.
    LetOff x = new LetOff();
    for (int k = 0; k < 6; k++) due("rule()", Due.rule(x, "go 1" + "+1".repeat(59)), k);
  }

  private static void whatCannotStand() {
    Due.says("0 a byte or WORD that can't stand there, or the end (behind the last byte)");
    for (int sign = 0; sign < 256; sign++) {
      char c = (char) sign;
      if (" show".indexOf(c) < 0) shows(c + "show 3", Due.fault(0, 0));
      boolean digit = c >= '0' && c <= '9';
      if (c != ' ' && c != ';' && !digit) shows("show 3" + c, Due.fault(6, 0));
      if (c != ' ' && !digit) shows("show " + c, Due.fault(5, 0));
      if (" ;+-*/%".indexOf(c) < 0 && !digit) rules("go 1" + c, Due.fault(4, 0));
      if (" <=>+-*/%".indexOf(c) < 0 && !digit) rules("go 1 if 1" + c + "1", Due.fault(9, 0));
    }
    String show = "show 3;road 0 1;car 0 0 9;gap 1";
    for (int n : new int[] {4, 5, 7, 11, 12, 13, 14, 16, 19, 20, 21, 22, 23, 24, 26, 29, 30}) shows(show.substring(0, n), Due.fault(n, 0));
    String rule = "go 1*2 if not [ 1 <= 2 ] or 1 = 1;go 1";
    for (int n : new int[] {2, 3, 5, 9, 10, 13, 14, 15, 16, 17, 18, 20, 21, 22, 23, 27, 28, 29, 30, 31, 32, 34, 36, 37}) rules(rule.substring(0, n), Due.fault(n, 0));
    // A NUMBER is no sign, though it be that sign's own.
    for (char sign : "+-*/%;".toCharArray()) rules("go 1 " + (int) sign + " go 1", Due.fault(5, 0));
    for (char sign : "<=>+".toCharArray()) rules("go 1 if 1 " + (int) sign + " 1", Due.fault(10, 0));
    rules("go 1 if " + (int) '[' + " 1=1]", Due.fault(11, 0));
    rules("go 1 if [1=1 " + (int) ']', Due.fault(13, 0));
    shows("show 3 " + (int) ';' + " gap 1", Due.fault(7, 0));
    LetOff longer = new LetOff();
    due("rule()", Due.rule(longer, "go 1 if 1<=12"), 0);
    due("rule(): the end is ahead of what the TAPE had", Due.rule(longer, "go 1 if 1<"), Due.fault(10, 0));
    due("rule(): the end is ahead of what the TAPE had", Due.rule(longer, "go 1 if 1<=1"), 1);
    due("show()", Due.show(longer, "show 20;gap 1"), 0);
    due("show(): the end is ahead of what the TAPE had", Due.show(longer, "show 2"), Due.fault(5, 1));
    shows(show + "   ", 1);
    shows(show + " ; ", Due.fault(34, 0));
    rules(rule + " + ", Due.fault(41, 0));
  }

  private static void wrongNumbers() {
    Due.says("1 a NUMBER of more digits, or not as told");
    shows("show 3;gap 123456", Due.fault(11, 1));
    shows("show 3;gap 4 x", Due.fault(11, 1));
    shows("show 123456", Due.fault(5, 1));
    shows("show 3;road 0 123456", Due.fault(14, 1));
    shows("show 3;road 0 1;car 0 0 000060", Due.fault(24, 1));
    shows("show 3;road 0 1;car 0 000000 1", Due.fault(22, 1));
    rules("go 1+123456", Due.fault(5, 1));
    rules("go 1 if 1 = 123456", Due.fault(12, 1));
    rules("go 1 123456", Due.fault(5, 0));
    shows("show 3 123456", Due.fault(7, 0));
  }

  private static void wrongClauses() {
    Due.says("4 one CLAUSE too many, a second show, another CLAUSE ahead of it, a sixth ROAD, a seventh CAR (at its first byte)");
    shows("show 3" + ";gap0".repeat(39) + "; gap0", Due.fault(203, 4));
    rules("go 1" + ";go 1".repeat(11) + "; go 1", Due.fault(61, 4));
    shows("show 3; show", Due.fault(8, 4));
    shows(" road", Due.fault(1, 4));
    shows(FIVE_ROADS + "; road x", Due.fault(FIVE_ROADS.length() + 2, 4));
    shows(SIX_CARS + "; car x", Due.fault(SIX_CARS.length() + 2, 4));
    shows(FIVE_ROADS + ";road2", Due.fault(FIVE_ROADS.length() + 1, 4));
    shows(FIVE_ROADS.substring(0, FIVE_ROADS.lastIndexOf(';')) + ";road x", Due.fault(FIVE_ROADS.lastIndexOf(';') + 6, 0));
    shows(SIX_CARS.substring(0, SIX_CARS.lastIndexOf(';')) + ";car x", Due.fault(SIX_CARS.lastIndexOf(';') + 5, 0));
  }

  private static void firstFaultLeastKind() {
    Due.says("FAULTS, the first along the text");
    shows("show 2;show 3", Due.fault(5, 1));
    shows("show 3;road 3 0", Due.fault(12, 1));
    shows("show 3;road 0 0;road", Due.fault(14, 1));
    rules("go 123456 if x", Due.fault(3, 1));
    rules("go x if 123456", Due.fault(3, 0));
    rules("go 1 if " + "[".repeat(11) + "x", Due.fault(18, 2));
    rules("go 1 if " + "[".repeat(9) + "x" + "[".repeat(9), Due.fault(17, 0));
    Due.says("Of one place the least.");
    rules("go 1" + "+1".repeat(59) + "+123456", Due.fault(123, 1));
    rules("go 1" + "+1".repeat(59) + "+x", Due.fault(123, 0));
    rules("go 1" + "+1".repeat(59) + "+", Due.fault(123, 0));
    rules("go 1" + ";go 1".repeat(11) + ";x", Due.fault(60, 0));
    shows("show 3" + ";gap0".repeat(39) + ";x", Due.fault(202, 0));
    shows(FIVE_ROADS + ";roads 1 1", Due.fault(FIVE_ROADS.length() + 1, 0));
  }

  private static void sixRules() {
    Due.says("NONE, and nothing happens: there are 6.");
    LetOff x = new LetOff();
    for (int k = 0; k < 6; k++) due("rule()", Due.rule(x, "go " + k), k);
    Due.tell(x, "go 1");
    Due.unmoved(x, "rule(), the seventh", x::rule, -1);
    due("count(13), the TAPE stays", x.count(13), 4);
    x.end(0);
    Due.unmoved(x, "rule(), the seventh, empty", x::rule, -1);
    Due.says("-2 - its FAULT");
    LetOff y = new LetOff();
    due("rule()", Due.rule(y, "go"), Due.fault(2, 0));
    due("rule(), the number that the wrong one has not", Due.rule(y, "go 1"), 0);
  }

  private static void force() {
    Due.says("-2, and nothing happens, if there is none such.");
    LetOff x = new LetOff();
    Due.unmoved(x, "force(NONE), none there", () -> x.force(-1), -1);
    for (int k = 0; k < 6; k++) {
      int none = k;
      Due.unmoved(x, "force(" + k + "), not told yet", () -> x.force(none), -2);
      Due.rule(x, "go 1");
      due("force(" + k + ")", x.force(k), k - 1);
    }
    for (int wrong : new int[] {6, 7, -2, -3, Integer.MIN_VALUE, Integer.MAX_VALUE}) Due.unmoved(x, "force(" + wrong + ")", () -> x.force(wrong), -2);
    due("force(NONE)", x.force(-1), 5);
    due("force(NONE) again", x.force(-1), -1);
  }
}
