/** Each sentence of the document's part II, of the ACTS and of what is there now, that names a boundary. */
public final class StepBoundariesTest {
  /** CAR 0 stands where it WANTS, as there is a gap ahead of it; nobody comes at ROAD 1. */
  private static final String STUCK = "show 4;road 0 20;road 2 20;gap 1;gap 2;car 0 0 9";

  public static void main(String[] args) {
    withoutFuel();
    sumAboveZero();
    withoutRule();
    nextCell();
    fuelLess();
    waiting();
    comesOn();
    leastNumber();
    wantsNext();
    step999();
    stepRefused();
    pole();
    grass();
    fill();
    wish();
    lastTwenty();
    whatIsUndone();
    readings();
    counts();
    images();
    Due.close("StepBoundariesTest");
  }

  private static void due(String call, int got, int want) { Due.due(call, got, want); }

  private static void cars(LetOff x, int what, int... want) {
    for (int car = 0; car < want.length; car++) due("car(" + car + ", " + what + ")", x.car(car, what), want[car]);
  }

  private static void withoutFuel() {
    Due.says("one without FUEL stands");
    LetOff x = Due.ruled("show 5;road 0 20;car 0 0 0;car 2 0 0", "go 1");
    for (int k = 0; k < 3; k++) {
      due("step()", x.step(), 0);
      cars(x, 0, 0, 2, -1);
      cars(x, 2, 0, 0, 0);
    }
    cars(x, 3, 3, 3, 0);
    LetOff last = Due.ruled("show 9;road 0 20;car 0 0 1;car 4 0 1", "go 1");
    due("step(): OFF by the last FUEL", last.step(), 1);
    cars(last, 0, 0, 5);
    cars(last, 2, 20, 0);
    due("step()", last.step(), 1);
    cars(last, 0, -1, 5);
    due("pole(1, 1)", last.pole(1, 1), 1);
    last.step();
    cars(last, 0, -1, 6);
  }

  private static void sumAboveZero() {
    Due.says("if the SUM of the RULE IN FORCE's first CLAUSE without a TEST, or whose TEST holds (0 without), is above 0");
    String[] rules = {"go 1", "go 0", "go 0-1", "go 1 if 1=2", "go 1 if 1=2;go 1 if 2=1", "go 1 if 1=2;go 1",
      "go 0 if 1=1;go 1", "go 0;go 1", "go 1;go 0", "go 1 if 1=1;go 0", "go 0-1 if 1=2;go 2 if 1=1;go 0", "go 0-1;go 5"};
    int[] off = {1, 0, 0, 0, 0, 1, 0, 0, 1, 1, 1, 0};
    for (int k = 0; k < rules.length; k++) due("step() by " + rules[k], Due.ruled(STUCK, rules[k]).step(), off[k]);
    LetOff x = Due.ruled("show 5;road 0 20;car 1 0 9", "go 1");
    due("step(): not in the CELL of its ROAD", x.step(), 0);
    LetOff y = Due.ruled("show 5;road 0 20;road 1 20;car 1 0 9;car 0 0 9", "go 1");
    due("step(): in the CELL of another ROAD", y.step(), 2);
  }

  private static void withoutRule() {
    Due.says("without a RULE, if nobody waits at that ROAD");
    LetOff x = Due.shown(STUCK);
    Due.rule(x, "go 0");
    due("step() as nobody waits", x.step(), 1);
    LetOff y = Due.shown(STUCK);
    Due.rule(y, "go 0");
    y.force(0);
    y.step();
    y.force(-1);
    due("road(0, 2)", y.road(0, 2), 1);
    due("step() as one waits", y.step(), 0);
    due("wish(0, 1)", y.wish(0, 1), 0);
    due("step() as it WANTS another ROAD", y.step(), 0);
    // At ROAD 1 one waits, at ROAD 0 none: each by its own ROAD.
    LetOff z = Due.shown("show 9;road 4 20;road 7 20;gap 7;car 1 0 9;car 6 1 9");
    Due.steps(z, 3);
    due("road(1, 2)", z.road(1, 2), 1);
    due("step() as one waits at the other ROAD", z.step(), 1);
  }

  private static void nextCell() {
    Due.says("goes on to the next CELL (0 behind the last), if there is no car and no gap; else it stands");
    for (int cells = 3; cells <= 20; cells++) {
      LetOff x = Due.ruled("show " + cells + ";road 1 20;car " + (cells - 1) + " 0 9;car " + (cells - 2) + " 0 9", "go 0");
      x.step();
      cars(x, 0, 0, cells - 1);
    }
    LetOff behindCar = Due.ruled("show 20;road 5 20;car 19 0 9;car 0 0 0", "go 1");
    behindCar.step();
    cars(behindCar, 0, 19, 0);
    cars(behindCar, 2, 9, 0);
    LetOff behindGap = Due.shown("show 20;road 5 20;car 19 0 9;gap 0");
    behindGap.step();
    cars(behindGap, 0, 19);
    LetOff full = Due.ruled("show 3;road 0 20;car 0 0 9;car 1 0 9;car 2 0 9", "go 0");
    full.step();
    cars(full, 0, 0, 1, 2, -1);
    cars(full, 2, 9, 9, 9, 0);
    // CAR 0 goes OFF ahead of CAR 2's turn, CAR 2 goes on behind CAR 1's.
    LetOff order = Due.ruled("show 3;road 0 20;road 1 20;car 0 0 9;car 1 0 9;car 2 1 9", "go 1 if car = 0");
    due("step()", order.step(), 1);
    cars(order, 0, -1, 1, 0);
  }

  private static void fuelLess() {
    Due.says("Who went on or OFF has 1 FUEL less.");
    LetOff x = Due.ruled("show 9;road 0 20;car 0 0 9;car 3 0 60;car 4 0 9;gap 5", "go 1");
    due("step()", x.step(), 1);
    cars(x, 2, 20, 60, 9);
    x.undo();
    x.fill(5);
    x.step();
    cars(x, 2, 20, 60, 8);
    x.step();
    cars(x, 2, 0, 59, 7);
  }

  private static void waiting() {
    Due.says("one more waits there, if the rest of STEP by EVERY is 0 (99 at most)");
    for (int every = 1; every <= 20; every++) {
      LetOff x = Due.shown("show 3;gap 0;road 0 " + every);
      for (int k = 0; k < 42; k++) {
        x.step();
        due("road(0, 2) behind STEP " + k + ", EVERY " + every, x.road(0, 2), k / every + 1);
      }
    }
    LetOff full = Due.shown("show 3;gap 0;gap 1;road 0 1;road 1 2");
    int[][] want = {{98, 98, 49}, {99, 99, 50}, {100, 99, 50}, {101, 99, 51}, {150, 99, 75}, {200, 99, 100}};
    int made = 0;
    for (int[] w : want) {
      Due.steps(full, w[0] - made);
      made = w[0];
      due("road(0, 2) behind " + made, full.road(0, 2), w[1]);
      due("road(1, 2) behind " + made, full.road(1, 2), Math.min(99, w[2]));
    }
    due("fill(0)", full.fill(0), 1);
    full.step();
    due("road(0, 2): one of the 99 came ON", full.road(0, 2), 98);
  }

  private static void comesOn() {
    Due.says("if any waits, the CELL has no car and no gap, and not all six CARS are ON");
    LetOff x = Due.shown("show 9;road 3 20");
    x.step();
    cars(x, 0, 3, -1);
    x.step();
    due("count(6): nobody waits any more", x.count(6) & 2, 0);
    LetOff car = Due.ruled("show 9;road 3 20;car 3 0 0", "go 1");
    car.step();
    due("count(6), a car is there", car.count(6), 1);
    due("count(9)", car.count(9), 1);
    car.grass(0);
    car.step();
    due("count(6), a gap is there", car.count(6), 0);
    car.fill(3);
    car.step();
    due("count(6), filled", car.count(6), 1);
    due("count(9)", car.count(9), 0);
    // In the same STEP: it goes on, another comes.
    LetOff at = Due.ruled("show 9;road 3 20;car 3 0 9", "go 0");
    at.step();
    cars(at, 0, 4, 3);
    // Five are ON: the sixth comes at ROAD 0, none at ROAD 1, till one is OFF.
    LetOff five = Due.ruled("show 20;road 0 20;road 10 20;car 1 0 0;car 2 0 0;car 3 0 0;car 4 0 0;car 5 0 0", "go 0");
    five.step();
    due("count(6)", five.count(6), 63);
    due("road(0, 2)", five.road(0, 2), 0);
    due("road(1, 2)", five.road(1, 2), 1);
    five.step();
    due("road(1, 2)", five.road(1, 2), 1);
    five.grass(2);
    five.step();
    due("car(2, 0)", five.car(2, 0), 10);
    due("road(1, 2)", five.road(1, 2), 0);
  }

  private static void leastNumber() {
    Due.says("as the CAR of least number that is not, with FUEL 20");
    for (int gone = 0; gone < 6; gone++) {
      LetOff x = Due.shown("show 20;road 0 20;car 1 0 0;car 2 0 0;car 3 0 0;car 4 0 0;car 5 0 0;car 6 0 0");
      x.grass(gone);
      x.grass(5);
      x.step();
      cars(x, 0, gone == 0 ? 0 : 1, gone == 1 ? 0 : 2, gone == 2 ? 0 : 3, gone == 3 ? 0 : 4, gone == 4 ? 0 : 5, gone == 5 ? 0 : -1);
      due("car(" + gone + ", 2)", x.car(gone, 2), 20);
      due("car(" + gone + ", 3)", x.car(gone, 3), 0);
    }
    LetOff empty = Due.shown("show 20;road 0 1;road 3 1;road 6 1;road 9 1;road 12 1");
    empty.step();
    cars(empty, 0, 0, 3, 6, 9, 12, -1);
    cars(empty, 2, 20, 20, 20, 20, 20, 0);
  }

  private static void wantsNext() {
    Due.says("WANTS the ROAD of the next number (0 behind the last; the same, if it is the only one)");
    String[] texts = {"show 20;road 0 1", ";road 4 1", ";road 8 1", ";road 12 1", ";road 16 1"};
    StringBuilder text = new StringBuilder();
    for (int roads = 1; roads <= 5; roads++) {
      text.append(texts[roads - 1]);
      LetOff x = Due.shown(text.toString());
      x.step();
      for (int car = 0; car < roads; car++) due("car(" + car + ", 1) of " + roads, x.car(car, 1), car == roads - 1 ? 0 : car + 1);
    }
  }

  /** Beyond an object's 512 calls all answers are free, but STEP 999 can't be come to within them. */
  private static void step999() {
    Due.says("STEP is 1 more (999 at most by hand; STEPS that are asked go on beyond).");
    LetOff x = Due.ruled(STUCK, "go 1 if step = 1000");
    Due.steps(x, 998);
    due("count(5)", x.count(5), 998);
    due("step() in STEP 998", x.step(), 0);
    due("count(5)", x.count(5), 999);
    Due.unmoved(x, "step() in STEP 999", x::step, -1);
    due("lets(0)", x.lets(0), 1000);
    due("ahead(0, 1, 2)", x.ahead(0, 1, 2), 0);
    due("ahead(0, 2, 2)", x.ahead(0, 2, 2), 1);
    due("still()", x.still(), 999);
    due("image(0)", x.image(0), 999);
    due("undo()", x.undo(), 19);
    due("count(5)", x.count(5), 998);
    due("step()", x.step(), 0);
    due("back(0)", x.back(0), 999);
    Due.unmoved(x, "step() in STEP 999", x::step, -1);
  }

  private static void stepRefused() {
    Due.says("NONE, and nothing happens, without a SHOW, or in STEP 999.");
    LetOff x = new LetOff();
    Due.unmoved(x, "step() without a SHOW", x::step, -1);
    x.image(0);
    Due.show(x, STUCK);
    x.back(0);
    Due.unmoved(x, "step() without a SHOW any more", x::step, -1);
    Due.says("CARS that go OFF in it, as bits");
    LetOff six = Due.ruled("show 20;road 0 20;road 4 20;road 8 20;road 12 20;road 16 20;car 0 0 9;car 4 1 9;car 8 2 9;car 12 3 9;car 16 4 9;car 1 0 0", "go 1");
    due("step()", six.step(), 31);
    due("count(7)", six.count(7), 5);
    LetOff last = Due.ruled("show 20;road 0 20;car 1 0 0;car 2 0 0;car 3 0 0;car 4 0 0;car 5 0 0;car 0 0 9", "go 1");
    due("step()", last.step(), 32);
    due("step() with no CARS", Due.shown("show 3").step(), 0);
  }

  private static void pole() {
    LetOff x = Due.shown("show 4;road 0 20;gap 1;gap 3;car 0 0 0;car 2 0 60");
    Due.says("a CAR that is ON has 1 to 20 more FUEL, 99 at most");
    due("pole(0, 1)", x.pole(0, 1), 1);
    due("pole(0, 20)", x.pole(0, 20), 21);
    due("pole(1, 20)", x.pole(1, 20), 80);
    due("pole(1, 18)", x.pole(1, 18), 98);
    due("pole(1, 1)", x.pole(1, 1), 99);
    due("pole(1, 1), full", x.pole(1, 1), 99);
    due("pole(1, 20), full", x.pole(1, 20), 99);
    due("count(11): ACTS all the same", x.count(11), 7);
    due("undo()", x.undo(), 6);
    x.undo();
    x.undo();
    due("car(1, 2)", x.car(1, 2), 98);
    due("pole(1, 20), some of it", x.pole(1, 20), 99);
    Due.says("POLE: FUEL then; NONE, and nothing happens, without these.");
    for (int much : new int[] {0, -1, 21, 99, Integer.MIN_VALUE, Integer.MAX_VALUE}) Due.unmoved(x, "pole(0, " + much + ")", () -> x.pole(0, much), -1);
    for (int car : new int[] {-1, 2, 5, 6, Integer.MIN_VALUE, Integer.MAX_VALUE}) Due.unmoved(x, "pole(" + car + ", 1)", () -> x.pole(car, 1), -1);
    LetOff none = new LetOff();
    Due.unmoved(none, "pole(0, 1) without a SHOW", () -> none.pole(0, 1), -1);
  }

  private static void grass() {
    Due.says("a CAR that is ON is OFF at once, in whose CELL there is a gap then");
    LetOff x = Due.shown("show 20;road 5 20;car 0 0 0;car 19 0 60");
    due("grass(0)", x.grass(0), 0);
    due("grass(1)", x.grass(1), 19);
    due("gapIn(0)", x.gapIn(0), 1);
    due("gapIn(19)", x.gapIn(19), 1);
    due("count(8)", x.count(8), 2);
    due("count(7)", x.count(7), 2);
    due("count(6)", x.count(6), 0);
    for (int what = 0; what < 4; what++) cars(x, what, what < 2 ? -1 : 0, what < 2 ? -1 : 0);
    Due.says("GRASS: the CELL it was in; NONE, and nothing happens, without that CAR ON.");
    for (int car : new int[] {0, 1, 2, 5, 6, -1, Integer.MIN_VALUE, Integer.MAX_VALUE}) Due.unmoved(x, "grass(" + car + ")", () -> x.grass(car), -1);
    LetOff none = new LetOff();
    Due.unmoved(none, "grass(0) without a SHOW", () -> none.grass(0), -1);
  }

  private static void fill() {
    Due.says("FILL: how many gaps there are then; NONE, and nothing happens, without a gap there.");
    LetOff x = Due.shown("show 20;road 5 20;gap 0;gap 19;car 7 0 9");
    for (int cell : new int[] {1, 18, 5, 7, 20, 32, 51, -1, -32, Integer.MIN_VALUE, Integer.MAX_VALUE}) Due.unmoved(x, "fill(" + cell + ")", () -> x.fill(cell), -1);
    due("fill(19)", x.fill(19), 1);
    due("fill(0), the last", x.fill(0), 0);
    Due.unmoved(x, "fill(0) again", () -> x.fill(0), -1);
    Due.unmoved(x, "fill(19) again", () -> x.fill(19), -1);
    LetOff none = new LetOff();
    Due.unmoved(none, "fill(0) without a SHOW", () -> none.fill(0), -1);
  }

  private static void wish() {
    LetOff x = Due.shown("show 20;road 0 1;road 4 1;road 8 1;road 12 1;road 16 1;car 1 0 9;car 2 4 9");
    Due.says("WISH: which it WANTED; NONE, and nothing happens, without these (another one).");
    Due.unmoved(x, "wish(0, 0), that it WANTS", () -> x.wish(0, 0), -1);
    Due.unmoved(x, "wish(1, 4), that it WANTS", () -> x.wish(1, 4), -1);
    for (int road : new int[] {5, 6, -1, -2, Integer.MIN_VALUE, Integer.MAX_VALUE}) Due.unmoved(x, "wish(0, " + road + ")", () -> x.wish(0, road), -1);
    for (int car : new int[] {2, 5, 6, -1, Integer.MIN_VALUE, Integer.MAX_VALUE}) Due.unmoved(x, "wish(" + car + ", 1)", () -> x.wish(car, 1), -1);
    due("wish(0, 4)", x.wish(0, 4), 0);
    due("wish(0, 0)", x.wish(0, 0), 4);
    due("wish(1, 0)", x.wish(1, 0), 4);
    due("car(1, 1)", x.car(1, 1), 0);
    due("count(11)", x.count(11), 3);
    LetOff only = Due.shown("show 4;road 0 1;car 1 0 9");
    Due.unmoved(only, "wish(0, 0), the only ROAD", () -> only.wish(0, 0), -1);
    LetOff none = new LetOff();
    Due.unmoved(none, "wish(0, 0) without a SHOW", () -> none.wish(0, 0), -1);
  }

  private static void lastTwenty() {
    Due.says("The last 20 can be UNDONE, the last first.");
    for (int acts : new int[] {0, 1, 19, 20, 21, 39, 40, 41}) {
      LetOff x = Due.shown("show 3");
      Due.steps(x, acts);
      int can = Math.min(20, acts);
      due("count(11) behind " + acts, x.count(11), can);
      for (int k = 1; k <= can; k++) {
        due("undo()", x.undo(), can - k);
        due("count(5)", x.count(5), acts - k);
      }
      Due.unmoved(x, "undo(), none can", x::undo, -1);
    }
    // Undone and done again, around the end of what is kept.
    LetOff x = Due.shown("show 3");
    Due.steps(x, 19);
    for (int k = 0; k < 30; k++) {
      x.undo();
      Due.steps(x, 2);
    }
    due("count(5)", x.count(5), 49);
    for (int k = 1; k <= 20; k++) {
      due("undo()", x.undo(), 20 - k);
      due("count(5)", x.count(5), 49 - k);
    }
    Due.unmoved(x, "undo(), none can", x::undo, -1);
    LetOff none = new LetOff();
    Due.unmoved(none, "undo() without a SHOW", none::undo, -1);
  }

  private static void whatIsUndone() {
    Due.says("The last ACT is UNDONE: how many more can be; NONE, and nothing happens: none can.");
    LetOff x = Due.ruled("show 6;road 0 5;road 3 4;gap 4;car 1 1 9;car 5 0 9", "go waiting");
    int[][] kept = new int[6][];
    kept[0] = Due.all(x);
    x.step();
    kept[1] = Due.all(x);
    x.pole(0, 20);
    kept[2] = Due.all(x);
    x.grass(1);
    kept[3] = Due.all(x);
    x.fill(4);
    kept[4] = Due.all(x);
    x.wish(0, 0);
    for (int k = 4; k >= 0; k--) {
      due("undo()", x.undo(), k);
      due("as it was behind " + k + " ACTS", java.util.Arrays.equals(kept[k], Due.all(x)) ? 1 : 0, 1);
    }
    // What is no ACT stays: the RULE IN FORCE, x, NOTES, the TAPE, RULES.
    x.step();
    x.force(-1);
    x.seed(5);
    x.note(0, 0, 1);
    Due.rule(x, "go 1");
    x.feed(0, 0, 0, 0, 0);
    x.undo();
    int[] counts = {6, 2, 2, 2, -1, 0, 3, 0, 1, 0, 1, 0, 5, 20};
    for (int what = 0; what < 14; what++) due("count(" + what + ")", x.count(what), counts[what]);
  }

  private static void readings() {
    LetOff x = Due.shown("show 20;road 0 1;road 19 20;gap 0;gap 18;car 1 1 60;car 17 0 0");
    Due.says("-2 without these, or a SHOW.");
    for (int car : new int[] {-1, 6, Integer.MIN_VALUE, Integer.MAX_VALUE}) for (int what = 0; what < 4; what++) due("car(" + car + ", " + what + ")", x.car(car, what), -2);
    for (int what : new int[] {-1, 4, Integer.MIN_VALUE, Integer.MAX_VALUE}) for (int car = 0; car < 6; car++) due("car(" + car + ", " + what + ")", x.car(car, what), -2);
    for (int what = 0; what < 4; what++) cars(x, what, new int[][] {{1, 17, -1, -1, -1, -1}, {1, 0, -1, -1, -1, -1}, {60, 0, 0, 0, 0, 0}, {0, 0, 0, 0, 0, 0}}[what]);
    due("car(0, 0) without a SHOW", new LetOff().car(0, 0), -2);
    Due.says("how many STEPS it was ON ahead of this one");
    x.step();
    cars(x, 3, 1, 1, 0, 0, 0, 0);
    due("car(2, 0), that came ON in STEP 0", x.car(2, 0), 19);
    x.step();
    cars(x, 3, 2, 2, 1, 0, 0, 0);
    Due.says("Of a ROAD what 0: its CELL, 1: EVERY, 2: how many wait there. NONE without these.");
    for (int road : new int[] {-1, 2, 4, 5, Integer.MIN_VALUE, Integer.MAX_VALUE}) for (int what = 0; what < 3; what++) due("road(" + road + ", " + what + ")", x.road(road, what), -1);
    for (int what : new int[] {-1, 3, Integer.MIN_VALUE, Integer.MAX_VALUE}) due("road(0, " + what + ")", x.road(0, what), -1);
    int[][] roads = {{0, 1, 2}, {19, 20, 0}};
    for (int road = 0; road < 2; road++) for (int what = 0; what < 3; what++) due("road(" + road + ", " + what + ")", x.road(road, what), roads[road][what]);
    due("road(0, 0) without a SHOW", new LetOff().road(0, 0), -1);
    due("road(0, 0) without ROADS", Due.shown("show 3").road(0, 0), -1);
    Due.says("1 if there is a gap in a CELL, else 0; NONE without it.");
    for (int cell = 0; cell < 20; cell++) due("gapIn(" + cell + ")", x.gapIn(cell), cell == 0 || cell == 18 ? 1 : 0);
    for (int cell : new int[] {-1, 20, 32, Integer.MIN_VALUE, Integer.MAX_VALUE}) due("gapIn(" + cell + ")", x.gapIn(cell), -1);
    due("gapIn(0) without a SHOW", new LetOff().gapIn(0), -1);
  }

  private static void counts() {
    Due.says("13: bytes of the TAPE. NONE for others.");
    LetOff x = Due.shown(STUCK);
    for (int what : new int[] {-1, 14, 15, Integer.MIN_VALUE, Integer.MAX_VALUE}) {
      due("count(" + what + ")", x.count(what), -1);
      due("count(" + what + ") without a SHOW", new LetOff().count(what), -1);
    }
    x.feed(0, 0, 0, 0, 0);
    due("count(13)", x.count(13), 20);
    Due.says("7: how many went OFF (by STEPS and GRASS)");
    due("step()", x.step(), 1);
    due("count(7)", x.count(7), 1);
    x.grass(0);
    due("count(7)", x.count(7), 2);
    Due.says("9: how many wait at all ROADS");
    LetOff five = Due.shown("show 20;gap 0;gap 4;gap 8;gap 12;gap 16;road 0 1;road 4 1;road 8 1;road 12 1;road 16 1");
    Due.steps(five, 99);
    due("count(9)", five.count(9), 495);
    five.step();
    due("count(9), full", five.count(9), 495);
  }

  private static void images() {
    Due.says("An IMAGE is made: STEP; NONE without it.");
    LetOff x = Due.ruled("show 6;road 0 5;road 3 4;gap 4;car 1 1 9;car 5 0 9", "go 1");
    for (int k : new int[] {-1, 4, 5, Integer.MIN_VALUE, Integer.MAX_VALUE}) Due.unmoved(x, "image(" + k + ")", () -> x.image(k), -1);
    Due.says("NONE, and nothing happens, if it was never made, or without it.");
    for (int k : new int[] {-1, 0, 1, 2, 3, 4, 5, Integer.MIN_VALUE, Integer.MAX_VALUE}) Due.unmoved(x, "back(" + k + ")", () -> x.back(k), -1);
    Due.says("IMAGES 0 to 3: all but the TAPE and the RULES, as it is (the RULE IN FORCE, too)");
    int[][] kept = new int[4][];
    for (int k = 0; k < 4; k++) {
      due("image(" + k + ")", x.image(k), k);
      kept[k] = Due.all(x);
      due("count(11): all stays by an IMAGE", x.count(11), k);
      x.step();
      x.seed(k + 1);
      x.note(k, 0, -1);
      x.force(k % 2 - 1);
    }
    Due.rule(x, "go 0");
    x.feed(0, 0, 0, 0, 0);
    Due.show(x, "show 3");
    x.feed(0, 0, 0, 0, 0);
    Due.says("gone back to, it is as it was (these stay; nothing can be UNDONE then)");
    for (int k : new int[] {3, 0, 2, 1, 3}) {
      x.step();
      due("back(" + k + ")", x.back(k), k);
      int[] now = Due.all(x);
      kept[k][3] = 2;   // the RULES
      kept[k][11] = 0;  // nothing can be UNDONE
      kept[k][13] = 20; // the TAPE
      due("all as in IMAGE " + k, java.util.Arrays.equals(kept[k], now) ? 1 : 0, 1);
      Due.unmoved(x, "undo()", x::undo, -1);
    }
    x.step();
    due("count(11)", x.count(11), 1);
    due("image(3), made anew", x.image(3), 4);
    due("back(0)", x.back(0), 0);
    due("back(3)", x.back(3), 4);
    // One of no SHOW.
    LetOff y = new LetOff();
    due("image(1) without a SHOW", y.image(1), 0);
    Due.show(y, STUCK);
    y.step();
    due("back(1)", y.back(1), 0);
    due("count(0)", y.count(0), 0);
    due("car(0, 0)", y.car(0, 0), -2);
  }
}
