import java.util.Arrays;
import java.util.function.ToIntFunction;

/** Each sentence of the document's part III, and of promises 16 to 33, that names a boundary. */
public final class AskedBoundariesTest {
  /** CAR 0 stands where it WANTS, as there is a gap ahead of it. Who comes behind it never goes OFF. */
  private static final String STUCK = "show 4;road 0 20;road 2 20;gap 1;gap 2;car 0 0 9";
  private static final String TWO_CARS = "show 6;road 0 5;road 3 4;gap 4;car 1 1 9;car 5 0 9";
  private static final String FIVE_ROADS = "show 20;road 0 20;road 4 20;road 8 20;road 12 20;road 16 20";
  /** Is at its ROAD in the STEPS 19, 39 and 59; who comes there in the STEPS 0, 20, 40 is CAR 1. */
  private static final String ROUND_AND_ROUND = "show 20;road 0 20;car 1 0 60";
  private static final int LEAST = Integer.MIN_VALUE;
  private static final int MOST = Integer.MAX_VALUE;

  public static void main(String[] args) {
    refusals();
    refusalsByCar();
    ahead();
    lets();
    still();
    leastFuel();
    leastFuelWrong();
    bestGrass();
    bestFill();
    closed();
    row();
    rowWithoutSome();
    wished();
    longest();
    rests();
    ring();
    litres();
    notes();
    ruled();
    look();
    lookParts();
    seed();
    shows();
    showsFull();
    nothingChanges();
    Due.close("AskedBoundariesTest");
  }

  private static void due(String call, int got, int want) { Due.due(call, got, want); }

  /** Asked with each argument at both ends of its range, and beyond them; and without a SHOW. */
  private static void range(String name, ToIntFunction<int[]> asked, int refused, int[] lows, int[] highs) {
    int[] valid = highs.clone();
    for (int k = 0; k < valid.length; k++) {
      for (int edge : new int[] {lows[k], highs[k]}) {
        int[] with = valid.clone();
        with[k] = edge;
        due(name + Arrays.toString(with) + " is answered", asked.applyAsInt(with) == refused ? 1 : 0, 0);
      }
      for (int beyond : new int[] {lows[k] - 1, highs[k] + 1, LEAST, MOST}) {
        int[] with = valid.clone();
        with[k] = beyond;
        due(name + Arrays.toString(with), asked.applyAsInt(with), refused);
      }
    }
  }

  private static void refusals() {
    LetOff x = Due.ruled(TWO_CARS, "go 1");
    int[] before = Due.all(x);
    Due.says("AHEAD n STEPS (0 to 100) .. -2 without these, or a SHOW.");
    range("ahead, a CELL ", a -> x.ahead(a[0], a[1], 0), -2, new int[] {0, 0}, new int[] {5, 100});
    range("ahead, FUEL ", a -> x.ahead(a[0], a[1], 1), -2, new int[] {0, 0}, new int[] {5, 100});
    range("ahead, of CAR 0 ", a -> x.ahead(0, a[0], a[1]), -2, new int[] {0, 0}, new int[] {100, 2});
    Due.says("NONE without that CAR ON.");
    range("lets", a -> x.lets(a[0]), -1, new int[] {0}, new int[] {1});
    Due.says("LEAST FUEL of a CAR that is ON for n STEPS (1 to 100) .. NONE without these (ON).");
    range("leastFuel", a -> x.leastFuel(a[0], a[1]), -1, new int[] {0, 1}, new int[] {1, 100});
    Due.says("for n STEPS (1 to 40) .. -2 without these, or a SHOW.");
    range("bestGrass", a -> x.bestGrass(a[0], a[1]), -2, new int[] {1, 0}, new int[] {40, 1});
    range("bestFill", a -> x.bestFill(a[0], a[1]), -2, new int[] {1, 0}, new int[] {40, 1});
    range("closed", a -> x.closed(a[0], a[1]), -2, new int[] {1, 0}, new int[] {40, 1});
    Due.says("ROW for n STEPS (1 to 3) .. NONE without these, or a SHOW.");
    range("row", a -> x.row(a[0], a[1]), -1, new int[] {1, 0}, new int[] {3, 3});
    Due.says("WISHED of a CAR the text told .. NONE without these.");
    range("wished", a -> x.wished(a[0], a[1]), -1, new int[] {0, 0}, new int[] {1, 1});
    Due.says("LONGEST in n STEPS (1 to 100) .. NONE without these, or a SHOW.");
    range("longest", a -> x.longest(a[0], a[1]), -1, new int[] {1, 0}, new int[] {100, 2});
    Due.says("RESTS of two CARS that are ON for n STEPS (1 to 20) .. NONE without these (unlike, ON).");
    range("rests", a -> x.rests(0, 1, a[0], a[1]), -1, new int[] {1, 0}, new int[] {20, 2});
    Due.says("NONE for others, or without a SHOW.");
    range("ring", a -> x.ring(a[0]), -1, new int[] {0}, new int[] {1});
    Due.says("LITRES (0 to 9999) .. NONE without these, or a SHOW.");
    range("litres", a -> x.litres(a[0], a[1]), -1, new int[] {0, 0}, new int[] {9999, 5});
    Due.says("-3 for others, or without a SHOW.");
    range("ruled", a -> x.ruled(a[0]), -3, new int[] {0}, new int[] {1});
    Due.says("LOOK (n 0 to 60) .. NONE without these, or a SHOW.");
    range("look", a -> x.look(a[0], a[1]), -1, new int[] {0, 0}, new int[] {60, 1});
    Due.says("SHOWS m times (1 to 10) n STEPS (1 to 60) .. p (0 to 100) .. NONE without these, or a SHOW.");
    range("shows", a -> x.shows(a[0], a[1], a[2], a[3]), -1, new int[] {1, 1, 0, 0}, new int[] {10, 60, 100, 1});
    Due.says("By what is asked nothing changes");
    due("all as before", Arrays.equals(before, Due.all(x)) ? 1 : 0, 1);
  }

  private static void refusalsByCar() {
    Due.says("NONE without these (unlike, ON).");
    LetOff x = Due.shown(TWO_CARS);
    for (int car : new int[] {-1, 2, 5, 6, LEAST, MOST}) {
      due("rests(" + car + ", 0, ..)", x.rests(car, 0, 1, 0), -1);
      due("rests(0, " + car + ", ..)", x.rests(0, car, 1, 0), -1);
      due("leastFuel(" + car + ", 1)", x.leastFuel(car, 1), -1);
      due("lets(" + car + ")", x.lets(car), -1);
      due("wished(" + car + ", 0)", x.wished(car, 0), -1);
    }
    due("rests(0, 0, ..)", x.rests(0, 0, 1, 0), -1);
    due("rests(1, 1, ..)", x.rests(1, 1, 1, 0), -1);
    due("rests(1, 0, ..)", x.rests(1, 0, 1, 0) > 0 ? 1 : 0, 1);
    x.step();
    due("lets(2), that came ON", x.lets(2), -2);
    due("leastFuel(2, 1), that came ON", x.leastFuel(2, 1), -2);
    due("rests(2, 0, ..), that came ON", x.rests(2, 0, 1, 0) > 0 ? 1 : 0, 1);
    due("wished(2, 0): the text did not tell it", x.wished(2, 0), -1);
    x.grass(0);
    due("lets(0), over the GRASS", x.lets(0), -1);
    due("leastFuel(0, 1), over the GRASS", x.leastFuel(0, 1), -1);
    due("rests(0, 1, ..), over the GRASS", x.rests(0, 1, 1, 0), -1);
    due("wished(0, 0): the text told it", x.wished(0, 0), 2);
    Due.says("without a SHOW");
    LetOff none = new LetOff();
    int[][] asked = {{none.ahead(0, 1, 0), -2}, {none.ahead(0, 1, 2), -2}, {none.lets(0), -1}, {none.still(), -1}, {none.leastFuel(0, 1), -1},
      {none.bestGrass(1, 0), -2}, {none.bestFill(1, 0), -2}, {none.closed(1, 0), -2}, {none.row(1, 0), -1}, {none.row(1, 2), -1},
      {none.wished(0, 0), -1}, {none.longest(1, 0), -1}, {none.longest(1, 1), -1}, {none.rests(0, 1, 1, 0), -1}, {none.ring(0), -1},
      {none.litres(0, 0), -1}, {none.ruled(0), -3}, {none.ruled(1), -3}, {none.look(0, 0), -1}, {none.shows(1, 1, 1, 0), -1}};
    for (int k = 0; k < asked.length; k++) due("question " + k, asked[k][0], asked[k][1]);
  }

  private static void ahead() {
    Due.says("AHEAD n STEPS (0 to 100): the CELL of a CAR; FUEL (0, if it is not ON); how many went OFF in all.");
    LetOff x = Due.ruled(STUCK, "go 1 if step = 99");
    int[] steps = {0, 1, 99, 100};
    int[] fuel = {9, 9, 9, 20};
    int[] off = {0, 0, 0, 1};
    for (int k = 0; k < 4; k++) {
      due("ahead(0, " + steps[k] + ", 0)", x.ahead(0, steps[k], 0), 0);
      due("ahead(0, " + steps[k] + ", 1)", x.ahead(0, steps[k], 1), fuel[k]);
      for (int car : new int[] {0, 5, 6, -1, LEAST, MOST}) due("ahead(" + car + ", " + steps[k] + ", 2): car is not asked", x.ahead(car, steps[k], 2), off[k]);
      for (int car = 1; car < 6; car++) {
        due("ahead(" + car + ", " + steps[k] + ", 0): NONE: not ON", x.ahead(car, steps[k], 0), -1);
        due("ahead(" + car + ", " + steps[k] + ", 1)", x.ahead(car, steps[k], 1), 0);
      }
    }
    LetOff y = Due.shown(STUCK);
    y.grass(0);
    due("ahead(0, 0, 2): in all", y.ahead(0, 0, 2), 1);
    due("ahead(0, 0, 0)", y.ahead(0, 0, 0), -1);
  }

  private static void lets() {
    Due.says("the first STEP, this one the first, of 200, in which it goes OFF");
    int[] when = {0, 1, 199, 200};
    int[] at0 = {0, 1, 199, -2};
    int[] at1 = {-2, 1, 199, 200};
    for (int k = 0; k < 4; k++) {
      LetOff x = Due.ruled(STUCK, "go 1 if step = " + when[k]);
      due("lets(0) by STEP " + when[k], x.lets(0), at0[k]);
      x.step();
      due("lets(0) in STEP 1 by STEP " + when[k], x.lets(0), at1[k]);
    }
    due("lets(0) by no STEP", Due.ruled(STUCK, "go 0").lets(0), -2);
    due("lets(0) without FUEL", Due.ruled("show 4;road 0 20;car 0 0 0", "go 1").lets(0), -2);
    due("lets(0) by the last FUEL", Due.ruled("show 4;road 0 20;car 3 0 2", "go 1").lets(0), 1);
    due("lets(0), one FUEL too few", Due.ruled("show 4;road 0 20;car 3 0 1", "go 1").lets(0), -2);
    // Who comes ON as CAR 0 behind it is another one: the first STEP is its own.
    due("lets(0), another behind it", Due.ruled("show 4;road 0 1;gap 1;car 0 0 9", "go 1").lets(0), 0);
  }

  private static void still() {
    Due.says("the first STEP, this one the first, of 200, in which none goes on or OFF, nobody comes ON");
    due("still() of nothing", Due.shown("show 3").still(), 0);
    due("still(): waiting is no moving", Due.ruled(STUCK, "go 0").still(), 0);
    due("still(): one comes ON in STEP 0", Due.ruled("show 4;road 0 20;gap 1", "go 0").still(), 1);
    due("still(): one goes on in STEP 0", Due.ruled("show 4;road 0 20;gap 0;gap 3;car 1 0 9", "go 0").still(), 1);
    due("still(): one goes OFF in STEP 1, when nobody waits", Due.shown("show 4;road 0 20;gap 1").still(), 2);
    String busy = "show 3;road 0 1;gap 1;car 0 0 9";
    int[] till = {1, 199, 200, 201};
    int[] at0 = {1, 199, -2, -2};
    int[] at1 = {1, 199, 200, -2};
    for (int k = 0; k < 4; k++) {
      LetOff x = Due.ruled(busy, "go 1 if step < " + till[k]);
      due("still() till STEP " + till[k], x.still(), at0[k]);
      x.step();
      due("still() in STEP 1, till STEP " + till[k], x.still(), at1[k]);
    }
  }

  private static void leastFuel() {
    Due.says("the least, 0 to 60, in place of what it has, so that it goes OFF in these");
    LetOff late = Due.ruled(STUCK, "go 1 if step = 99");
    due("leastFuel(0, 100)", late.leastFuel(0, 100), 1);
    due("leastFuel(0, 99)", late.leastFuel(0, 99), -2);
    late.step();
    due("leastFuel(0, 99)", late.leastFuel(0, 99), 1);
    due("leastFuel(0, 1)", Due.ruled(STUCK, "go 1").leastFuel(0, 1), 1);
    int[][] byFuel = {{0, -2}, {1, 1}, {59, 59}, {60, 60}, {61, -2}, {99, -2}};
    for (int[] f : byFuel) due("leastFuel(0, 100) by fuel = " + f[0], Due.ruled(STUCK, "go 1 if fuel = " + f[0]).leastFuel(0, 100), f[1]);
    LetOff full = Due.ruled(STUCK, "go 1");
    for (int k = 0; k < 5; k++) full.pole(0, 20);
    due("leastFuel(0, 1) in place of 99", full.leastFuel(0, 1), 1);
    due("leastFuel(0, 1) in place of 0", Due.ruled("show 4;road 0 20;car 0 0 0", "go 1").leastFuel(0, 1), 1);
    LetOff far = Due.ruled(ROUND_AND_ROUND, "go 1");
    due("leastFuel(0, 20)", far.leastFuel(0, 20), 20);
    due("leastFuel(0, 19)", far.leastFuel(0, 19), -2);
    LetOff thrice = Due.ruled(ROUND_AND_ROUND, "go 1 if car = 1 or rounds = 2");
    due("leastFuel(0, 60)", thrice.leastFuel(0, 60), 60);
    due("leastFuel(0, 59)", thrice.leastFuel(0, 59), -2);
  }

  private static void leastFuelWrong() {
    Due.says("LEAST FUEL; -2: by none");
    // At its ROAD in the STEPS 0, 20, 40, 60: by 61 FUEL alone.
    LetOff x = Due.ruled("show 20;road 0 20;car 0 0 9", "go 1 if car = 1 or rounds = 3");
    due("leastFuel(0, 61)", x.leastFuel(0, 61), -2);
    due("leastFuel(0, 100)", x.leastFuel(0, 100), -2);
    LetOff y = Due.ruled("show 20;road 0 20;car 0 0 9", "go 1 if car = 1 or rounds = 2");
    due("leastFuel(0, 41)", y.leastFuel(0, 41), 41);
    due("car(0, 2)", y.car(0, 2), 9);
  }

  private static void bestGrass() {
    Due.says("so that most go OFF in these (itself not counted); of several none, then the least; how many");
    // CAR 0 stands behind CAR 1; it may go when one is OFF.
    LetOff late = Due.ruled("show 4;road 1 20;road 2 20;car 1 0 9;car 2 1 0", "go off if step = 39");
    due("bestGrass(40, 0)", late.bestGrass(40, 0), 1);
    due("bestGrass(40, 1)", late.bestGrass(40, 1), 1);
    due("bestGrass(39, 0)", late.bestGrass(39, 0), -1);
    due("bestGrass(39, 1)", late.bestGrass(39, 1), 0);
    LetOff tie = Due.ruled("show 9;road 1 20;gap 2;car 1 0 9;car 4 0 0;car 6 0 0", "go off");
    due("bestGrass(1, 0): CARS 1 and 2 alike", tie.bestGrass(1, 0), 1);
    due("bestGrass(1, 1)", tie.bestGrass(1, 1), 1);
    LetOff none = Due.ruled("show 9;road 1 20;gap 2;car 1 0 9;car 4 0 0;car 6 0 0", "go 1");
    due("bestGrass(1, 0): CARS 1, 2 and none alike", none.bestGrass(1, 0), -1);
    due("bestGrass(1, 1)", none.bestGrass(1, 1), 1);
    LetOff first = Due.ruled("show 9;road 3 20;gap 4;car 7 0 0;car 3 0 9", "go off");
    due("bestGrass(1, 0), the first CAR", first.bestGrass(1, 0), 0);
    LetOff last = Due.ruled("show 20;road 10 20;gap 11;car 10 0 9;car 12 0 0;car 13 0 0;car 14 0 0;car 15 0 0;car 9 0 0", "go 1 if behind > 5");
    due("bestGrass(1, 0), the last CAR", last.bestGrass(1, 0), 5);
    due("bestGrass(1, 1)", last.bestGrass(1, 1), 1);
    LetOff empty = Due.shown("show 3");
    due("bestGrass(40, 0) with no CARS", empty.bestGrass(40, 0), -1);
    due("bestGrass(40, 1) with no CARS", empty.bestGrass(40, 1), 0);
  }

  private static void bestFill() {
    Due.says("BEST FILL for n STEPS (1 to 40): likewise the gap that had best be FILLED");
    LetOff late = Due.ruled("show 6;road 1 20;gap 1;gap 2;car 0 0 9", "go 1 if step = 39");
    due("bestFill(40, 0)", late.bestFill(40, 0), 1);
    due("bestFill(40, 1)", late.bestFill(40, 1), 1);
    due("bestFill(39, 0)", late.bestFill(39, 0), -1);
    due("bestFill(39, 1)", late.bestFill(39, 1), 0);
    LetOff first = Due.ruled("show 20;road 0 20;gap 0;gap 1;car 19 0 9", "go 1");
    due("bestFill(1, 0)", first.bestFill(1, 0), -1);
    due("bestFill(2, 0), the first CELL", first.bestFill(2, 0), 0);
    LetOff last = Due.ruled("show 20;road 19 20;gap 19;gap 0;car 18 0 9", "go 1");
    due("bestFill(2, 0), the last CELL", last.bestFill(2, 0), 19);
    due("bestFill(2, 1)", last.bestFill(2, 1), 1);
    LetOff alike = Due.ruled("show 6;road 1 20;road 4 20;gap 4;gap 1;car 0 0 9;car 3 1 9", "go 1");
    due("bestFill(2, 0), of two alike the least", alike.bestFill(2, 0), 1);
    LetOff whole = Due.ruled(ROUND_AND_ROUND, "go 1");
    due("bestFill(40, 0) with no gaps", whole.bestFill(40, 0), -1);
    due("bestFill(20, 1) with no gaps: CARS 1 and 0", whole.bestFill(20, 1), 2);
    due("bestFill(19, 1) with no gaps", whole.bestFill(19, 1), 1);
  }

  private static void closed() {
    Due.says("the ROAD at which had best nobody come any more, and nobody wait now, or none, so that most go OFF in these; of several none, then the least; how many");
    LetOff late = Due.ruled("show 5;road 2 20;gap 3;car 2 0 9", "go 1 if step = 39 and waiting = 0");
    due("closed(40, 0)", late.closed(40, 0), 0);
    due("closed(40, 1)", late.closed(40, 1), 1);
    due("closed(39, 0)", late.closed(39, 0), -1);
    due("closed(39, 1)", late.closed(39, 1), 0);
    Due.steps(late, 39);
    due("closed(1, 0): nobody waits now", late.closed(1, 0), 0);
    due("road(0, 2)", late.road(0, 2), 2);
    LetOff alike = Due.ruled("show 6;road 1 20;road 4 20;gap 2;gap 5;car 1 0 9;car 4 1 9", "go 1 if waiting = 0 and step = 1");
    due("closed(2, 0), of two alike the least", alike.closed(2, 0), 0);
    due("closed(2, 1)", alike.closed(2, 1), 1);
    due("closed(1, 0), all alike", alike.closed(1, 0), -1);
    LetOff last = Due.ruled(FIVE_ROADS + ";gap 0;gap 4;gap 8;gap 12;gap 17;car 16 4 9", "go 1 if waiting = 0 and step = 1");
    due("closed(2, 0), the last ROAD", last.closed(2, 0), 4);
    LetOff none = Due.shown("show 3");
    due("closed(40, 0) with no ROADS", none.closed(40, 0), -1);
    due("closed(40, 1) with no ROADS", none.closed(40, 1), 0);
  }

  private static void rowDue(LetOff x, int n, int many, int... sets) {
    due("row(" + n + ", 0)", x.row(n, 0), many);
    for (int k = 1; k <= 3; k++) due("row(" + n + ", " + k + ")", x.row(n, k), k > n ? -2 : sets[k - 1]);
  }

  private static void row() {
    Due.says("of these the first (sets as numbers, least first): how many; the set in a STEP");
    // One comes behind CAR 0 when that is OFF, and can go in the next STEP: two of three STEPS, in any order.
    LetOff alike = Due.ruled("show 5;road 1 20;gap 2;car 1 0 9", "go 0");
    rowDue(alike, 1, 1, 1);
    rowDue(alike, 2, 2, 1, 1);
    rowDue(alike, 3, 2, 0, 1, 1);
    LetOff five = Due.ruled(FIVE_ROADS + ";car 0 0 9;car 4 1 9;car 8 2 9;car 12 3 9;car 16 4 9;car 1 0 0", "go 0");
    rowDue(five, 1, 5, 31);
    LetOff sixth = Due.ruled("show 20;road 0 20;car 1 0 0;car 2 0 0;car 3 0 0;car 4 0 0;car 5 0 0;car 0 0 9", "go 0");
    // Who comes behind CAR 5 can be OFF in STEP 1; then nobody waits.
    rowDue(sixth, 1, 1, 32);
    rowDue(sixth, 2, 2, 32, 32);
  }

  private static void rowWithoutSome() {
    Due.says("if they are at the ROAD they WANT and have FUEL, and no others, in place of what the RULE says");
    rowDue(Due.shown("show 3"), 3, 0, 0, 0, 0);
    rowDue(Due.ruled("show 5;road 1 20;gap 2;car 1 0 0", "go 1"), 3, 0, 0, 0, 0);
    rowDue(Due.ruled("show 5;road 1 20;road 3 20;gap 2;gap 3;car 1 1 9", "go 1"), 3, 0, 0, 0, 0);
    // It goes on by its last FUEL, or OFF.
    LetOff last = Due.ruled("show 5;road 1 20;gap 3;car 0 0 2;car 1 0 0", "go 1");
    rowDue(last, 2, 0, 0, 0);
    LetOff two = Due.ruled("show 9;road 4 20;gap 5;car 3 0 2", "go 0");
    rowDue(two, 2, 1, 0, 1);
    LetOff one = Due.ruled("show 9;road 4 20;gap 5;car 3 0 1", "go 1");
    rowDue(one, 3, 0, 0, 0, 0);
    Due.says("-2: there is no such STEP");
    due("row(1, 2)", two.row(1, 2), -2);
    due("row(2, 3)", two.row(2, 3), -2);
    due("row(3, 3)", two.row(3, 3) == -2 ? 1 : 0, 0);
  }

  private static void wished() {
    Due.says("ROADS it can have WANTED at first, in place of what the text told .. how many; the ROADS, as bits");
    // It is at ROAD 2 in STEP 3, at ROAD 3 in STEP 7: OFF then, if it WANTED that.
    LetOff x = Due.ruled(FIVE_ROADS + ";car 5 0 60", "go 1");
    due("wished(0, 0), no NOTES", x.wished(0, 0), 5);
    due("wished(0, 1), no NOTES", x.wished(0, 1), 31);
    x.note(0, 0, 5);
    x.note(3, 0, 8);
    due("wished(0, 1), all are so", x.wished(0, 1), 31);
    x.note(4, 0, 9);
    due("wished(0, 0)", x.wished(0, 0), 4);
    due("wished(0, 1)", x.wished(0, 1), 27);
    x.note(8, 0, -1);
    due("wished(0, 0)", x.wished(0, 0), 1);
    due("wished(0, 1)", x.wished(0, 1), 8);
    x.note(0, 0, 6);
    due("wished(0, 0), none is so", x.wished(0, 0), 0);
    due("wished(0, 1), none is so", x.wished(0, 1), 0);
    Due.says("at the begin of the n-th STEP of all (0 to 60) a CAR (0 to 5) was in a CELL, or not ON (NONE)");
    LetOff late = Due.ruled(ROUND_AND_ROUND, "go 1 if car = 1 or step = 59");
    late.note(59, 0, 0);
    due("wished(0, 0)", late.wished(0, 0), 1);
    late.note(60, 0, -1);
    due("wished(0, 0)", late.wished(0, 0), 1);
    late.note(60, 5, -1);
    due("wished(0, 0)", late.wished(0, 0), 1);
    late.note(60, 0, 1);
    due("wished(0, 0)", late.wished(0, 0), 0);
  }

  private static void longest() {
    Due.says("the most that wait at any ROAD behind any of these; the STEP of it, the first; at which, the least");
    LetOff x = Due.shown("show 3;gap 0;road 0 9");
    int[][] want = {{1, 1, 0}, {9, 1, 0}, {10, 2, 9}, {99, 11, 90}, {100, 12, 99}};
    for (int[] w : want) {
      due("longest(" + w[0] + ", 0)", x.longest(w[0], 0), w[1]);
      due("longest(" + w[0] + ", 1)", x.longest(w[0], 1), w[2]);
      due("longest(" + w[0] + ", 2)", x.longest(w[0], 2), 0);
    }
    x.step();
    due("longest(1, 1) in STEP 1", x.longest(1, 1), 1);
    due("longest(9, 1) in STEP 1", x.longest(9, 1), 9);
    LetOff full = Due.shown("show 3;gap 0;gap 1;road 0 2;road 1 1");
    due("longest(98, 0)", full.longest(98, 0), 98);
    due("longest(100, 0), full", full.longest(100, 0), 99);
    due("longest(100, 1), full", full.longest(100, 1), 98);
    due("longest(100, 2), full", full.longest(100, 2), 1);
    due("longest(1, 2), alike", full.longest(1, 2), 0);
    due("longest(2, 2)", full.longest(2, 2), 1);
    LetOff comes = Due.ruled("show 4;road 0 20;gap 1;car 0 0 9", "go 1 if step = 1");
    comes.step();
    due("road(0, 2)", comes.road(0, 2), 1);
    due("longest(1, 0): behind the STEP nobody waits", comes.longest(1, 0), 0);
    due("longest(1, 1)", comes.longest(1, 1), 1);
    due("longest(1, 2)", comes.longest(1, 2), 0);
    Due.says("both -2: there are no ROADS");
    LetOff none = Due.shown("show 3");
    int[] without = {0, -2, -2};
    for (int what = 0; what < 3; what++) due("longest(100, " + what + ")", none.longest(100, what), without[what]);
  }

  /**
   * "-2: there is none" can't be come to: which of the two is OFF first is told by its own ROAD alone,
   * so one ROAD is best for that one whatever the other WANTS, and what is best for the other then is a rest.
   */
  private static void rests() {
    Due.says("each has 100 less the number of the STEP of these (1 the first) in which it goes OFF, or 0, if in none");
    LetOff late = Due.ruled("show 6;road 1 20;road 4 20;gap 2;gap 5;car 1 0 9;car 4 1 9", "go 1 if step = 19");
    int[] at19 = {4, 0, 0};
    int[] at20 = {1, 0, 1};
    for (int what = 0; what < 3; what++) {
      due("rests(0, 1, 19, " + what + ")", late.rests(0, 1, 19, what), at19[what]);
      due("rests(0, 1, 20, " + what + ")", late.rests(0, 1, 20, what), at20[what]);
    }
    // By the ROAD it is at it is OFF in the first of these, by the other in the fourth: CAR 1 has 0 by both.
    String near = "show 6;road 1 20;road 3 20;car 1 0 9;car 5 0 0";
    String far = "show 6;road 3 20;road 1 20;car 1 0 9;car 5 0 0";
    due("rests(0, 1, 20, 0)", Due.ruled(near, "go 1").rests(0, 1, 20, 0), 2);
    due("rests(0, 1, 20, 1), ROAD 0 is nearer", Due.ruled(near, "go 1").rests(0, 1, 20, 1), 0);
    due("rests(0, 1, 20, 1), ROAD 1 is nearer", Due.ruled(far, "go 1").rests(0, 1, 20, 1), 1);
    due("rests(1, 0, 20, 2), ROAD 1 is nearer", Due.ruled(far, "go 1").rests(1, 0, 20, 2), 1);
    Due.says("twos of which neither would have more by another ROAD: how many; the first (by the first one, then the second one)");
    LetOff stand = Due.shown(FIVE_ROADS + ";car 1 0 0;car 2 0 0");
    int[] all = {25, 0, 0};
    for (int what = 0; what < 3; what++) due("rests(0, 1, 20, " + what + "), all alike", stand.rests(0, 1, 20, what), all[what]);
    LetOff corner = Due.ruled(FIVE_ROADS + ";gap 13;gap 17;car 16 0 9;car 12 0 9", "go 1");
    int[] there = {1, 4, 3};
    int[] turned = {1, 3, 4};
    for (int what = 0; what < 3; what++) {
      due("rests(0, 1, 1, " + what + ")", corner.rests(0, 1, 1, what), there[what]);
      due("rests(1, 0, 1, " + what + ")", corner.rests(1, 0, 1, what), turned[what]);
    }
    // CAR 1 without FUEL has 0 by any: five twos, the first by ROAD 0.
    LetOff one = Due.ruled(FIVE_ROADS + ";gap 17;car 16 0 9;car 1 0 0", "go 1");
    int[] ones = {5, 4, 0};
    int[] others = {5, 0, 4};
    for (int what = 0; what < 3; what++) {
      due("rests(0, 1, 1, " + what + ")", one.rests(0, 1, 1, what), ones[what]);
      due("rests(1, 0, 1, " + what + ")", one.rests(1, 0, 1, what), others[what]);
    }
    LetOff only = Due.ruled("show 9;road 0 20;car 1 0 9;car 2 0 9", "go 1");
    due("rests(0, 1, 20, 0), one ROAD", only.rests(0, 1, 20, 0), 1);
  }

  private static void ring() {
    Due.says("the first STEP, this one the first, of 60, at whose begin the same CARS are ON in the same CELLS, WANTING the same ROADS, as at the begin of a later one, 60 STEPS from now at most; how much later the first such is");
    LetOff none = Due.shown("show 3");
    due("ring(0) of nothing", none.ring(0), 0);
    due("ring(1) of nothing", none.ring(1), 1);
    // They come in the STEPS 0, 12, .. 48 and queue at the gap, the fifth till STEP 58; in STEP 59 nothing moves.
    LetOff last = Due.ruled("show 17;road 10 12;gap 8", "go 0");
    due("ring(0), the 60th", last.ring(0), 59);
    due("ring(1), the 60th", last.ring(1), 1);
    // One CELL further the fifth goes on till STEP 59, and in STEP 60 the sixth comes.
    LetOff beyond = Due.ruled("show 17;road 10 12;gap 9", "go 0");
    due("ring(0), none", beyond.ring(0), -2);
    due("ring(1), none", beyond.ring(1), -2);
    // They come every 12 and every 5: first empty as in STEP 0 when 60 STEPS are over.
    LetOff sixty = Due.ruled("show 11;road 1 12;road 0 5", "go 1");
    due("ring(0)", sixty.ring(0), 0);
    due("ring(1), 60 later", sixty.ring(1), 60);
    LetOff wants = Due.ruled(STUCK, "go 1 if step = 0");
    due("ring(0): another CAR 0 WANTS another ROAD", wants.ring(0), 1);
    LetOff waits = Due.ruled(STUCK, "go 0");
    due("ring(0): more wait, that is not asked", waits.ring(0), 0);
    due("ring(1)", waits.ring(1), 1);
    Due.steps(waits, 7);
    due("ring(0) in STEP 7", waits.ring(0), 7);
    due("ring(0): other CELLS", Due.ruled("show 3;road 0 20;gap 0;car 1 0 9", "go 0").ring(0), 1);
  }

  private static void litres() {
    LetOff six = Due.shown("show 20;road 0 20;car 1 0 9;car 2 0 9;car 3 0 9;car 4 0 9;car 5 0 9;car 6 0 9");
    Due.says("each the part downwards; what is left, one each, to those whose part lost most by that, of several the least first");
    for (int much : new int[] {0, 1, 5, 6, 7, 11, 12, 9998, 9999})
      for (int car = 0; car < 6; car++) due("litres(" + much + ", " + car + ")", six.litres(much, car), much / 6 + (car < much % 6 ? 1 : 0));
    // 39 and 98 short of 137. 5: 1.42 and 3.58. 137: none lost.
    LetOff two = Due.shown("show 20;road 0 20;car 1 0 60;car 2 0 1");
    int[][] parts = {{1, 0, 1}, {2, 1, 1}, {5, 1, 4}, {137, 39, 98}, {138, 39, 99}};
    for (int[] p : parts) for (int car = 0; car < 2; car++) due("litres(" + p[0] + ", " + car + ")", two.litres(p[0], car), p[car + 1]);
    for (int car = 2; car < 6; car++) due("litres(9999, " + car + "), not ON", two.litres(9999, car), 0);
    Due.says("nothing, if none is short");
    LetOff full = Due.shown("show 20;road 0 20;car 1 0 60;car 2 0 60");
    full.pole(0, 20);
    full.pole(0, 18);
    // 1 and 39 short of 40: 249.975 and 9749.025.
    due("litres(9999, 0), one short", full.litres(9999, 0), 250);
    due("litres(9999, 1)", full.litres(9999, 1), 9749);
    full.pole(0, 1);
    due("litres(9999, 0), full", full.litres(9999, 0), 0);
    due("litres(9999, 1)", full.litres(9999, 1), 9999);
    full.pole(1, 20);
    full.pole(1, 19);
    due("litres(9999, 0)", full.litres(9999, 0), 0);
    due("litres(9999, 1), full", full.litres(9999, 1), 0);
    due("litres(9999, 5), none is ON", Due.shown("show 3").litres(9999, 5), 0);
  }

  private static void notes() {
    Due.says("A NOTE (n NONE: there are none then, 0): how many; -2, and nothing happens, without these, or a SHOW (cell NONE: not ON), or if there are 10.");
    LetOff x = Due.shown("show 20;road 0 20;car 1 0 9");
    for (int n : new int[] {-2, -3, 61, 62, LEAST, MOST}) Due.unmoved(x, "note(" + n + ", 0, 0)", () -> x.note(n, 0, 0), -2);
    for (int car : new int[] {-1, -2, 6, 7, LEAST, MOST}) Due.unmoved(x, "note(0, " + car + ", 0)", () -> x.note(0, car, 0), -2);
    for (int cell : new int[] {-2, -3, 20, 21, LEAST, MOST}) Due.unmoved(x, "note(0, 0, " + cell + ")", () -> x.note(0, 0, cell), -2);
    Due.unmoved(x, "note(NONE, ..) as there are none", () -> x.note(-1, 0, 0), 0);
    int[][] edges = {{0, 0, 0}, {60, 0, 0}, {0, 5, 0}, {0, 0, 19}, {0, 0, -1}, {60, 5, 19}, {60, 5, -1}};
    for (int k = 0; k < 10; k++) {
      int[] e = edges[k % edges.length];
      due("note" + Arrays.toString(e), x.note(e[0], e[1], e[2]), k + 1);
      due("count(10)", x.count(10), k + 1);
    }
    Due.unmoved(x, "note, the eleventh", () -> x.note(0, 0, 0), -2);
    due("ruled(0) by ten NOTES", x.ruled(0), 0);
    due("look(0, 0) by ten NOTES", x.look(0, 0), -2);
    due("wished(0, 0) by ten NOTES", x.wished(0, 0), 0);
    due("count(11): no ACT", x.count(11), 0);
    due("note(NONE, wrong, wrong)", x.note(-1, -9, 99), 0);
    due("count(10)", x.count(10), 0);
    for (int k = 1; k <= 10; k++) due("note behind that", x.note(0, 0, 1), k);
    due("ruled(0) by ten NOTES that are so", x.ruled(0), 1);
    LetOff small = Due.shown("show 3");
    due("note(0, 0, 2)", small.note(0, 0, 2), 1);
    Due.unmoved(small, "note(0, 0, 3)", () -> small.note(0, 0, 3), -2);
    LetOff none = new LetOff();
    Due.unmoved(none, "note(0, 0, NONE) without a SHOW", () -> none.note(0, 0, -1), -2);
    Due.unmoved(none, "note(NONE, ..) without a SHOW", () -> none.note(-1, 0, 0), 0);
  }

  private static LetOff withRules(String show, String... rules) {
    LetOff x = Due.shown(show);
    for (String rule : rules) Due.rule(x, rule);
    return x;
  }

  private static void ruled() {
    // In STEP 1 CAR 0 is at its ROAD, where one waits. Goes it OFF, that one is CAR 0 in CELL 2; else it is in 3.
    String show = "show 5;road 2 20;car 1 0 10";
    Due.says("which of the RULES, and of none .. how many; the first (none ahead of 0, told as NONE)");
    LetOff none = Due.shown(show);
    due("ruled(0), no RULES, no NOTES", none.ruled(0), 1);
    due("ruled(1), no RULES, no NOTES", none.ruled(1), -1);
    LetOff all = withRules(show, "go 0", "go 0", "go 0", "go 0", "go 0", "go 1");
    due("ruled(0), no NOTES", all.ruled(0), 7);
    due("ruled(1), no NOTES", all.ruled(1), -1);
    all.note(2, 0, 3);
    due("ruled(0)", all.ruled(0), 6);
    due("ruled(1)", all.ruled(1), -1);
    all.note(-1, 0, 0);
    all.note(2, 0, 2);
    due("ruled(0)", all.ruled(0), 1);
    due("ruled(1), the last", all.ruled(1), 5);
    LetOff zero = withRules(show, "go 1", "go 1");
    zero.note(2, 0, 2);
    due("ruled(0)", zero.ruled(0), 2);
    due("ruled(1), RULE 0", zero.ruled(1), 0);
    Due.says("-2: there is none such");
    zero.note(2, 0, 3);
    due("ruled(0)", zero.ruled(0), 0);
    due("ruled(1)", zero.ruled(1), -2);
    Due.says("from the begin on, all as the text told it");
    LetOff acted = withRules(show, "go 1");
    acted.force(0);
    acted.note(2, 0, 2);
    acted.step();
    acted.wish(0, 0);
    acted.grass(0);
    acted.force(-1);
    due("ruled(0)", acted.ruled(0), 1);
    due("ruled(1)", acted.ruled(1), 0);
    LetOff late = withRules(ROUND_AND_ROUND, "go 1 if car = 1 or step = 59", "go 1 if car = 1");
    late.note(20, 0, 1);
    due("ruled(0): without a RULE it is OFF in STEP 19", late.ruled(0), 2);
    late.note(60, 0, 1);
    due("ruled(0)", late.ruled(0), 1);
    due("ruled(1)", late.ruled(1), 1);
  }

  private static void look() {
    Due.says("LOOK (n 0 to 60) what 0: the CAR, 1: how many; -2: no RULE is so.");
    LetOff x = withRules(ROUND_AND_ROUND, "go 1 if car = 1 or step = 59", "go 1 if car = 1");
    due("look(0, 0), all alike", x.look(0, 0), 0);
    due("look(0, 1), all alike", x.look(0, 1), 3);
    x.note(20, 0, 1);
    due("look(59, 0)", x.look(59, 0), 0);
    due("look(59, 1)", x.look(59, 1), 2);
    due("look(60, 0)", x.look(60, 0), 0);
    due("look(60, 1)", x.look(60, 1), 1);
    x.note(60, 0, 1);
    due("look(60, 1), one is left", x.look(60, 1), 1);
    x.note(0, 0, 2);
    due("look(0, 0), none is left", x.look(0, 0), -2);
    due("look(0, 1), none is left", x.look(0, 1), -2);
    due("look(60, 1), none is left", x.look(60, 1), -2);
    LetOff none = Due.shown("show 3");
    due("look(60, 0), no RULES, no CARS", none.look(60, 0), 0);
    due("look(60, 1), no RULES, no CARS", none.look(60, 1), 1);
  }

  private static void lookParts() {
    Due.says("the CAR (0 to 5) by whose CELL, or none, these part best: the most alike are fewest, of several the least; how many");
    LetOff seven = withRules("show 3", "go 0", "go 0", "go 0", "go 0", "go 0", "go 0");
    due("look(60, 0), seven alike", seven.look(60, 0), 0);
    due("look(60, 1), seven alike", seven.look(60, 1), 7);
    // By RULE 0 it goes on to CELL 0 and CAR 1 comes in CELL 19; else another CAR 0 is in CELL 19.
    LetOff edge = withRules("show 20;road 19 20;car 19 0 9", "go 0", "go 1");
    due("look(1, 0), CARS 0 and 1 alike", edge.look(1, 0), 0);
    due("look(1, 1)", edge.look(1, 1), 2);
    // Only CAR 5 tells them apart: by RULE 0 it goes on to CELL 1, else another one is in CELL 0.
    LetOff last = withRules("show 20;road 0 20;car 2 0 0;car 4 0 0;car 6 0 0;car 8 0 0;car 10 0 0;car 0 0 9", "go 0", "go 1");
    due("look(1, 0), the last CAR", last.look(1, 0), 5);
    due("look(1, 1)", last.look(1, 1), 2);
    LetOff corner = withRules("show 20;road 19 20;car 2 0 0;car 4 0 0;car 6 0 0;car 8 0 0;car 10 0 0;car 19 0 9", "go 0", "go 1");
    due("look(1, 0), the last CAR in the last CELL", corner.look(1, 0), 5);
    due("look(1, 1)", corner.look(1, 1), 2);
  }

  private static long drawn(long x) { return (x * 1103515245L + 12345L) % 2147483648L; }

  private static void seed() {
    Due.says("x (0 to 2147483647; 0 at first)");
    due("count(12)", new LetOff().count(12), 0);
    due("count(12) behind a SHOW", Due.shown("show 3").count(12), 0);
    Due.says("x becomes a number: what it was; NONE, and nothing happens, below 0.");
    LetOff x = new LetOff();
    due("seed(0)", x.seed(0), 0);
    due("seed(2147483647)", x.seed(MOST), 0);
    Due.unmoved(x, "seed(-1)", () -> x.seed(-1), -1);
    Due.unmoved(x, "seed(least)", () -> x.seed(LEAST), -1);
    due("seed(1)", x.seed(1), MOST);
    due("count(12)", x.count(12), 1);
  }

  private static void shows() {
    Due.says("ahead of each a DRAW mod 100: is it below p (0 to 100)");
    String gap = "show 3;gap 0;road 0 20";
    for (int from : new int[] {0, 1, 12345, 1234567890, MOST - 1, MOST}) {
      LetOff x = Due.shown(gap);
      x.seed(from);
      int first = (int) (drawn(from) / 65536 % 100);
      // One comes of itself in STEP 0.
      due("shows(1, 1, " + first + ", 1), not below", x.shows(1, 1, first, 1), 1);
      due("shows(1, 1, " + (first + 1) + ", 1), below", x.shows(1, 1, first + 1, 1), 2);
      due("shows(1, 1, 0, 1), never", x.shows(1, 1, 0, 1), 1);
      due("shows(1, 1, 100, 1), always", x.shows(1, 1, 100, 1), 2);
      due("count(12): x as it was", x.count(12), from);
      // No second DRAW where the first is not below: the second STEP's comes right behind it.
      int second = (int) (drawn(drawn(from)) / 65536 % 100);
      int most = Math.max(first, second);
      if (first != second) due("shows(1, 2, " + most + ", 1)", x.shows(1, 2, most, 1), first < second ? 1 + 1 + below(from, 3, most) : 1 + 1);
    }
    Due.says("SHOWS m times (1 to 10) n STEPS (1 to 60) from now on");
    LetOff x = Due.shown(gap);
    due("shows(10, 60, 0, 1): three came each time", x.shows(10, 60, 0, 1), 30);
    due("shows(10, 60, 100, 1)", x.shows(10, 60, 100, 1), 630);
    due("shows(10, 60, 100, 0)", x.shows(10, 60, 100, 0), 0);
    due("count(9): nothing stays", x.count(9), 0);
    LetOff off = Due.ruled(STUCK, "go 1 if step = 59");
    due("shows(10, 60, 0, 0), OFF in the 60th", off.shows(10, 60, 0, 0), 10);
    due("shows(10, 59, 0, 0)", off.shows(10, 59, 0, 0), 0);
    Due.says("are there ROADS");
    LetOff none = Due.shown("show 3");
    for (int what = 0; what < 2; what++) due("shows(10, 60, 100, " + what + ")", none.shows(10, 60, 100, what), 0);
  }

  /** 1 if the k-th DRAW from x on is below p, else 0. */
  private static int below(long x, int k, int p) {
    for (int i = 0; i < k; i++) x = drawn(x);
    return x / 65536 % 100 < p ? 1 : 0;
  }

  private static void showsFull() {
    Due.says("a DRAW mod how many: one more waits there (99 at most)");
    LetOff x = Due.shown("show 3;gap 0;gap 1;road 0 1;road 1 20");
    Due.steps(x, 99);
    for (int from : new int[] {0, 5, MOST}) {
      x.seed(from);
      long draws = from;
      int zero = 99;
      int one = 5;
      for (int step = 99; step < 159; step++) {
        draws = drawn(drawn(draws));
        if (draws / 65536 % 2 == 1) one = Math.min(99, one + 1);
        if (step % 20 == 0) one = Math.min(99, one + 1);
      }
      due("shows(1, 60, 100, 1) from " + from, x.shows(1, 60, 100, 1), zero + one);
    }
    // Both full: nobody more.
    LetOff full = Due.shown("show 3;gap 0;gap 1;road 0 1;road 1 1");
    Due.steps(full, 99);
    due("shows(10, 60, 100, 1), all full", full.shows(10, 60, 100, 1), 1980);
    // A drawn one comes ON in its STEP, when the CELL is free.
    LetOff free = Due.ruled("show 9;road 0 20", "go 0");
    free.step();
    free.grass(0);
    free.step();
    due("shows(1, 1, 100, 1): a gap", free.shows(1, 1, 100, 1), 1);
    free.fill(0);
    due("shows(1, 1, 100, 1): it comes ON", free.shows(1, 1, 100, 1), 0);
  }

  private static void nothingChanges() {
    Due.says("By what is asked nothing changes");
    LetOff x = Due.ruled(TWO_CARS, "go 1");
    x.seed(99);
    x.step();
    x.note(0, 0, 1);
    Due.unmoved(x, "ahead", () -> x.ahead(0, 2, 2), 1);
    Due.unmoved(x, "lets", () -> x.lets(1), 1);
    Due.unmoved(x, "still", () -> x.still() == -1 ? 1 : 0, 0);
    Due.unmoved(x, "leastFuel", () -> x.leastFuel(0, 100) == -1 ? 1 : 0, 0);
    Due.unmoved(x, "bestGrass", () -> x.bestGrass(40, 0) == -2 ? 1 : 0, 0);
    Due.unmoved(x, "bestFill", () -> x.bestFill(40, 0) == -2 ? 1 : 0, 0);
    Due.unmoved(x, "closed", () -> x.closed(40, 0) == -2 ? 1 : 0, 0);
    Due.unmoved(x, "row", () -> x.row(3, 1) == -1 ? 1 : 0, 0);
    Due.unmoved(x, "wished", () -> x.wished(0, 0), 2);
    Due.unmoved(x, "longest", () -> x.longest(100, 0) == -1 ? 1 : 0, 0);
    Due.unmoved(x, "rests", () -> x.rests(0, 1, 20, 0) == -1 ? 1 : 0, 0);
    Due.unmoved(x, "ring", () -> x.ring(0) == -1 ? 1 : 0, 0);
    Due.unmoved(x, "litres", () -> x.litres(0, 0), 0);
    Due.unmoved(x, "ruled", () -> x.ruled(0), 2);
    Due.unmoved(x, "look", () -> x.look(0, 1), 2);
    Due.unmoved(x, "shows", () -> x.shows(10, 60, 50, 0) == -1 ? 1 : 0, 0);
    int[] before = Due.all(x);
    due("undo()", x.undo(), 0);
    due("step()", x.step(), 0);
    due("the same STEP again", Arrays.equals(before, Due.all(x)) ? 1 : 0, 1);
    // A row that was asked does not choose who goes OFF by hand.
    LetOff y = Due.ruled("show 5;road 1 20;gap 2;car 1 0 9", "go 0");
    due("row(3, 2)", y.row(3, 2), 1);
    due("step() by the RULE", y.step(), 0);
    LetOff z = Due.shown("show 5;road 2 1;gap 2");
    z.closed(40, 0);
    z.step();
    due("road(0, 2): no ROAD stays closed", z.road(0, 2), 1);
  }
}
