/** Each promise by answers worked out by hand from the document: ordinary ones, edges, wrong inputs. */
public final class PromisesTest {
  /** Nobody is ever let off here: see the STEPS in promise10. */
  private static final String JAM = "show 6;road 0 5;road 3 4;gap 4;car 1 1 9;car 5 0 9";
  /** The CAR is OFF in STEP 3, for 3 FUEL; another comes ON in STEP 0 and is OFF in STEP 1. */
  private static final String LONE = "show 5;road 2 20;car 0 0 10";
  private static final String TWO_READY = "show 6;road 1 20;road 4 20;car 1 0 5;car 4 1 5";

  private static String now = "";

  private static void due(String call, int got, int want) { Due.is(now + ": " + call, got, want); }

  public static void main(String[] args) {
    promise1();
    promises2And3();
    promise4Texts();
    promise4Faults();
    promise4Counts();
    promise4Stays();
    promise5Faults();
    promise5Limits();
    promise5Meaning();
    promise5Words();
    promise6();
    promises7To9();
    promise10();
    promise10Order();
    promise11();
    promises12And13();
    promise14();
    promise15();
    promise16();
    promises17And18();
    promise19();
    promises20And21();
    promise22();
    promise23();
    promise24();
    promise25();
    promise26();
    promise27();
    promise28();
    promise29();
    promises30And31();
    promises32And33();
    promise34();
    promises35And36();
    Due.close("PromisesTest");
  }

  private static void promise1() {
    now = "promise 1";
    LetOff x = new LetOff();
    for (int what = 0; what <= 13; what++) due("count(" + what + ")", x.count(what), what == 4 ? -1 : 0);
    due("force(0)", x.force(0), -2);
    due("force(NONE)", x.force(LetOff.NONE), -1);
    due("car", x.car(0, 0), -2);
    due("road", x.road(0, 0), -1);
    due("gapIn", x.gapIn(0), -1);
    due("step", x.step(), -1);
    due("pole", x.pole(0, 1), -1);
    due("grass", x.grass(0), -1);
    due("fill", x.fill(0), -1);
    due("wish", x.wish(0, 0), -1);
    due("undo", x.undo(), -1);
    due("ahead", x.ahead(0, 1, 2), -2);
    due("lets", x.lets(0), -1);
    due("still", x.still(), -1);
    due("leastFuel", x.leastFuel(0, 1), -1);
    due("bestGrass", x.bestGrass(1, 0), -2);
    due("bestFill", x.bestFill(1, 0), -2);
    due("closed", x.closed(1, 0), -2);
    due("row", x.row(1, 0), -1);
    due("wished", x.wished(0, 0), -1);
    due("longest", x.longest(1, 0), -1);
    due("rests", x.rests(0, 1, 1, 0), -1);
    due("ring", x.ring(0), -1);
    due("litres", x.litres(1, 0), -1);
    due("note", x.note(0, 0, -1), -2);
    due("note(NONE, ..)", x.note(-1, 0, 0), 0);
    due("ruled", x.ruled(0), -3);
    due("look", x.look(0, 0), -1);
    due("shows", x.shows(1, 1, 1, 0), -1);
    due("back", x.back(0), -1);
  }

  private static void promises2And3() {
    now = "promises 2, 3";
    LetOff x = new LetOff();
    due("feed", x.feed(0x73686f77, 0x20330000, 0, 0, 0), 20);
    due("end(21)", x.end(21), -1);
    due("end(-1)", x.end(-1), -1);
    due("end(20)", x.end(20), 20);
    due("end(6)", x.end(6), 6);
    due("count(13)", x.count(13), 6);
    due("show() of show 3", x.show(), 0);
    due("count(0)", x.count(0), 3);
    for (int k = 1; k <= 20; k++) due("feed", x.feed(-1, k, 0, 0, 0), 20 * k);
    due("feed", x.feed(1, 2, 3, 4, 5), -1);
    due("count(13)", x.count(13), 400);
    due("end(381)", x.end(381), 381);
    due("feed", x.feed(1, 2, 3, 4, 5), -1);
    due("end(380)", x.end(380), 380);
    due("feed", x.feed(1, 2, 3, 4, 5), 400);
    due("end(0)", x.end(0), 0);
    due("count(13)", x.count(13), 0);
    // All 20 bytes in their order: the word, and the number at the end.
    due("feed", x.feed(0x20202020, 0x2073686f, 0x77202020, 0x20202020, 0x20203137), 20);
    due("show()", x.show(), 0);
    due("count(0)", x.count(0), 17);
  }

  private static void shows(String text, int want) {
    LetOff x = new LetOff();
    due("show() of " + text, Due.show(x, text), want);
    due("count(13) behind it", x.count(13), 0);
  }

  private static void promise4Texts() {
    now = "promise 4";
    shows("show 3", 0);
    shows("show 20", 0);
    shows("show 00003", 0);
    shows("  show3 ", 0);
    shows("show 3;road 0 20;road 2 1;car 0 0 60;car 2 1 0", 2);
    shows("show 3 ; gap 0;gap 0 ;gap0", 0);
    shows("show 3;gap 0;road 0 1", 0);
    shows("show 9;road0 1;car1 0 1;car2 0 1;car3 0 1;car4 0 1;car5 0 1;car6 0 1", 6);
    LetOff x = Due.shown("show 9;road 7 3;road 0 20;gap 8;gap 2;gap 8;car 7 1 60;car 0 0 0");
    int[] counts = {9, 2, 2, 0, -1, 0, 3, 0, 2, 0, 0, 0, 0, 0};
    for (int what = 0; what < 14; what++) due("count(" + what + ")", x.count(what), counts[what]);
  }

  private static void promise4Faults() {
    now = "promise 4, faults";
    shows("", Due.fault(0, 0));
    shows("   ", Due.fault(3, 0));
    shows("show", Due.fault(4, 0));
    shows("show ", Due.fault(5, 0));
    shows("show 2", Due.fault(5, 1));
    shows("show 21", Due.fault(5, 1));
    shows("show 000003", Due.fault(5, 1));
    shows("show 4294967299", Due.fault(5, 1));
    shows("road 0 1", Due.fault(0, 4));
    shows("show 3;show 3", Due.fault(7, 4));
    shows("show 3;road 3 1", Due.fault(12, 1));
    shows("show 3;road 0 0", Due.fault(14, 1));
    shows("show 3;road 0 21", Due.fault(14, 1));
    shows("show 3;road 0 1;road 0 1", Due.fault(21, 1));
    shows("show 3;road 0", Due.fault(13, 0));
    shows("show 3;car 3 0 0", Due.fault(11, 1));
    shows("show 3;car 0 0 0", Due.fault(13, 1));
    shows("show 3;road 0 1;car 0 1 0", Due.fault(22, 1));
    shows("show 3;road 0 1;car 0 0 61", Due.fault(24, 1));
    shows("show 3;gap 0;road 0 1;car 0 0 0", Due.fault(26, 1));
    shows("show 3;road 0 1;car 0 0 0;gap 0", Due.fault(30, 1));
    shows("show 3;road 0 1;car 0 0 1;car 0 0 1", Due.fault(30, 1));
    shows("show 3;gap 3", Due.fault(11, 1));
    shows("shows 3", Due.fault(0, 0));
    shows("show 3;", Due.fault(7, 0));
    shows("show 3 ; ", Due.fault(9, 0));
    shows("show 3 1", Due.fault(7, 0));
    shows("show 3 1234567", Due.fault(7, 0));
    shows("show 3\t", Due.fault(6, 0));
    shows("show 3\0", Due.fault(6, 0));
    shows("Show 3", Due.fault(0, 0));
    shows("show 3;go 1", Due.fault(7, 0));
    shows("show -3", Due.fault(5, 0));
    shows("show 3;gap \u00b1", Due.fault(11, 0));
  }

  private static void promise4Counts() {
    now = "promise 4, limits";
    String forty = "show 3" + ";gap0".repeat(39);
    shows(forty, 0);
    shows(forty + ";gap0", Due.fault(202, 4));
    shows(forty + ";gip0", Due.fault(202, 0));
    shows(forty + ";", Due.fault(202, 0));
    shows("show 20;road 0 1;road 1 1;road 2 1;road 3 1;road 4 1", 0);
    shows("show 20;road 0 1;road 1 1;road 2 1;road 3 1;road 4 1;road 0 1", Due.fault(53, 4));
    String six = "show 20;road 0 1;car 1 0 1;car 2 0 1;car 3 0 1;car 4 0 1;car 5 0 1;car 6 0 1";
    shows(six, 6);
    shows(six + ";car 7 0 1", Due.fault(77, 4));
  }

  private static void promise4Stays() {
    now = "promise 4, what stays";
    LetOff x = Due.shown(JAM);
    Due.rule(x, "go 1");
    x.force(0);
    x.seed(77);
    x.step();
    x.note(0, 0, 1);
    due("show()", Due.show(x, "show 2"), Due.fault(5, 1));
    due("count(0)", x.count(0), 6);
    due("count(5)", x.count(5), 1);
    due("count(10)", x.count(10), 1);
    due("count(11)", x.count(11), 1);
    due("count(13)", x.count(13), 0);
    due("show()", Due.show(x, LONE), 1);
    int[] counts = {5, 1, 1, 1, 0, 0, 1, 0, 0, 0, 0, 0, 77, 0};
    for (int what = 0; what < 14; what++) due("count(" + what + ")", x.count(what), counts[what]);
    due("undo()", x.undo(), -1);
  }

  private static void rules(String text, int want) {
    LetOff x = new LetOff();
    due("rule() of " + text, Due.rule(x, text), want);
    due("count(13) behind it", x.count(13), 0);
    due("count(3) behind it", x.count(3), want == 0 ? 1 : 0);
  }

  private static void promise5Faults() {
    now = "promise 5, faults";
    rules("", Due.fault(0, 0));
    rules("go", Due.fault(2, 0));
    rules("gos 1", Due.fault(0, 0));
    rules("go x", Due.fault(3, 0));
    rules("go if", Due.fault(3, 0));
    rules("go -1", Due.fault(3, 0));
    rules("go (1)", Due.fault(3, 0));
    rules("go 1;", Due.fault(5, 0));
    rules("go 1 if", Due.fault(7, 0));
    rules("go 1 if fuel", Due.fault(12, 0));
    rules("go 1 if fuel = ", Due.fault(15, 0));
    rules("go 1 if fuel < = 1", Due.fault(15, 0));
    rules("go 1 if fuel =< 1", Due.fault(14, 0));
    rules("go 1 if fuel = 1]", Due.fault(16, 0));
    rules("go 1 if [fuel = 1", Due.fault(17, 0));
    rules("go 1 if [fuel = 1;", Due.fault(17, 0));
    rules("go 1 if [fuel] = 1", Due.fault(13, 0));
    rules("go 1 if 1 < 2 < 3", Due.fault(14, 0));
    rules("go 1 if 1 = 1 and", Due.fault(17, 0));
    rules("go 1 if 1 = 1 else", Due.fault(14, 0));
    rules("go 1 if nota = 1", Due.fault(8, 0));
    rules("go 5 %", Due.fault(6, 0));
    rules("go 1 2", Due.fault(5, 0));
    rules("go 1 123456", Due.fault(5, 0));
    rules("go 123456", Due.fault(3, 1));
    rules("go 1 if 1 = 000001", Due.fault(12, 1));
    rules("show 3", Due.fault(0, 0));
    rules("go 99999", 0);
    rules(" go1if1<=1and2>=1or not[not 1>2]", 0);
  }

  private static void promise5Limits() {
    now = "promise 5, limits";
    rules("go 1 if " + "[".repeat(10) + "1=1" + "]".repeat(10), 0);
    rules("go 1 if " + "[".repeat(11) + "1=1" + "]".repeat(11), Due.fault(18, 2));
    rules("go 1 if " + "not ".repeat(10) + "1=1", 0);
    rules("go 1 if " + "not ".repeat(11) + "1=1", Due.fault(48, 2));
    rules("go 1 if " + "[not ".repeat(5) + "1=1" + "]".repeat(5), 0);
    rules("go 1 if " + "[not ".repeat(5) + "not 1=1" + "]".repeat(5), Due.fault(33, 2));
    rules("go 1 if " + "[".repeat(10) + "1=1" + "]".repeat(10) + " or not " + "[".repeat(9) + "1=1" + "]".repeat(9), 0);
    String sixty = "go 1" + "+1".repeat(59);
    rules(sixty, 0);
    rules(sixty + "*step", Due.fault(123, 3));
    rules(sixty + "*123456", Due.fault(123, 1));
    rules(sixty + "*steps", Due.fault(123, 0));
    rules(sixty + ";go 1", Due.fault(126, 3));
    String fiftyNine = "go 1" + "+1".repeat(58);
    rules(fiftyNine + " if 1=1", Due.fault(125, 3));
    rules(fiftyNine + " if 1]1", Due.fault(125, 0));
    rules("go 1" + "+1".repeat(56) + " if 1=1", 0);
    rules("go 1" + "+1".repeat(57) + " if 1=1", Due.fault(124, 3));
    String twelve = "go 1" + ";go 1".repeat(11);
    rules(twelve, 0);
    rules(twelve + ";go 1", Due.fault(60, 4));
    rules(twelve + ";gu 1", Due.fault(60, 0));
    LetOff x = new LetOff();
    for (int k = 0; k < 6; k++) due("rule()", Due.rule(x, "go " + k), k);
    due("rule(), the seventh", Due.rule(x, "go 1"), -1);
    due("count(13)", x.count(13), 4);
    due("count(3)", x.count(3), 6);
    x.end(0);
    due("rule(), the seventh with a fault", Due.rule(x, "no"), -1);
  }

  /** Whether CAR 0, which is where it WANTS, goes OFF in STEP 0 by that RULE. */
  private static void lets(String rule, boolean want) {
    LetOff x = Due.shown("show 7;road 3 20;road 5 7;car 3 0 9;car 1 0 50;gap 6");
    due("rule() of " + rule, Due.rule(x, rule), 0);
    x.force(0);
    due("step() by " + rule, x.step(), want ? 1 : 0);
  }

  private static void promise5Meaning() {
    now = "promise 5, meaning";
    lets("go 1", true);
    lets("go 0", false);
    lets("go 0-1", false);
    lets("go 1 if 1 = 2", false);
    lets("go 1 if 1 = 2;go 2", true);
    lets("go 0 if 1 = 1;go 2", false);
    lets("go 0;go 2", false);
    lets("go 2 - 3 * 4 + 11", true);
    lets("go 2 - 3 * 4 + 10", false);
    lets("go 10 - 3 - 7", false);
    lets("go 8 / 4 * 2 - 3", true);
    lets("go 17 % 10 % 4 - 2", true);
    lets("go 17 % 10 % 4 - 3", false);
    lets("go 1 if 3 / 0 = 0 and 3 % 0 = 0", true);
    lets("go 1 if 0-7/2 = 0-3 and 0-7%4 = 0-3", true);
    // 65536 * 65536 * 65536 * 32768 is -2^63, goes round in 64 bits; by 3: -3074457345618258602, rest -2.
    String least = "65536*65536*65536*32768";
    lets("go 1 if " + least + " < 0 and " + least + "*2 = 0", true);
    lets("go 1 if " + least + "-1 > 0", true);
    lets("go 1 if " + least + "%3 = 0-2", true);
    lets("go 1 if " + least + "/3*3-2 = " + least, true);
    lets("go 1 if 1 < 1", false);
    lets("go 1 if 1 <= 1 and 1 >= 1 and 1 = 1", true);
    lets("go 1 if 1 > 1", false);
    lets("go 1 if 2 < 1 or 1 < 2 and 1 < 2", true);
    lets("go 1 if 1 < 2 or 1 < 2 and 2 < 1", true);
    lets("go 1 if [1 < 2 or 1 < 2] and 2 < 1", false);
    lets("go 1 if not 2 < 1 and 2 < 1", false);
    lets("go 1 if not [2 < 1 and 2 < 1]", true);
    lets("go 1 if not not 2 < 1", false);
  }

  private static void promise5Words() {
    now = "promise 5, words";
    lets("go 1 if car = 0 and road = 0 and fuel = 9 and waiting = 0 and behind = 2", true);
    lets("go 1 if on = 2 and off = 0 and rounds = 0 and every = 20 and step = 0", true);
    LetOff x = Due.shown(TWO_READY);
    Due.rule(x, "go 1 if car = 0;go 1 if off = 1 and on = 1 and behind = 6 and road = 1");
    x.force(0);
    due("step(): as all is then", x.step(), 3);
    LetOff y = Due.shown("show 3;road 0 20;car 0 0 60");
    Due.rule(y, "go rounds");
    y.force(0);
    int[] off = {0, 0, 0, 1, 2};
    for (int k = 0; k < 5; k++) due("step() by rounds " + k, y.step(), off[k]);
    LetOff z = Due.shown("show 4;road 0 3;road 2 1;gap 2;car 3 0 9");
    Due.rule(z, "go 1 if waiting = 1 and step = 1 and every = 3 and fuel = 8");
    z.force(0);
    // STEP 0 brings the CAR to the ROAD, where one waits from then on.
    due("step()", z.step(), 0);
    due("step() by waiting and step", z.step(), 1);
    LetOff g = Due.shown("show 6;road 1 20;car 1 0 5;car 3 0 5");
    Due.rule(g, "go off");
    g.force(0);
    g.grass(1);
    due("step(): over the grass is OFF, too", g.step(), 1);
  }

  private static void promise6() {
    now = "promise 6";
    LetOff x = new LetOff();
    Due.rule(x, "go 1");
    Due.rule(x, "go 0");
    due("force(1)", x.force(1), -1);
    due("force(2)", x.force(2), -2);
    due("force(-2)", x.force(-2), -2);
    due("count(4)", x.count(4), 1);
    due("force(0)", x.force(0), 1);
    due("force(NONE)", x.force(-1), 0);
    due("count(4)", x.count(4), -1);
    // Without a RULE nobody may wait there.
    LetOff y = Due.shown("show 5;road 2 20;car 1 0 10");
    y.step();
    due("step()", y.step(), 0);
    LetOff z = Due.shown("show 5;road 2 20;car 1 0 10");
    Due.rule(z, "go 1");
    z.step();
    z.force(0);
    due("step()", z.step(), 1);
  }

  private static void promises7To9() {
    now = "promises 7 to 9";
    LetOff x = Due.shown(JAM);
    int[][] cars = {{1, 1, 9, 0}, {5, 0, 9, 0}, {-1, -1, 0, 0}};
    for (int car = 0; car < 3; car++)
      for (int what = 0; what < 4; what++) due("car(" + car + ", " + what + ")", x.car(car, what), cars[car][what]);
    due("car(5, 0)", x.car(5, 0), -1);
    due("car(6, 0)", x.car(6, 0), -2);
    due("car(-1, 0)", x.car(-1, 0), -2);
    due("car(0, 4)", x.car(0, 4), -2);
    due("car(0, -1)", x.car(0, -1), -2);
    int[][] roads = {{0, 5, 0}, {3, 4, 0}};
    for (int road = 0; road < 2; road++)
      for (int what = 0; what < 3; what++) due("road(" + road + ", " + what + ")", x.road(road, what), roads[road][what]);
    due("road(2, 0)", x.road(2, 0), -1);
    due("road(-1, 0)", x.road(-1, 0), -1);
    due("road(0, 3)", x.road(0, 3), -1);
    due("road(0, -1)", x.road(0, -1), -1);
    int[] gaps = {0, 0, 0, 0, 1, 0};
    for (int cell = 0; cell < 6; cell++) due("gapIn(" + cell + ")", x.gapIn(cell), gaps[cell]);
    due("gapIn(6)", x.gapIn(6), -1);
    due("gapIn(-1)", x.gapIn(-1), -1);
    x.step();
    due("car(0, 3)", x.car(0, 3), 1);
    due("car(2, 3), that came ON", x.car(2, 3), 0);
  }

  private static void cars(LetOff x, int what, int... want) {
    for (int car = 0; car < want.length; car++) due("car(" + car + ", " + what + ")", x.car(car, what), want[car]);
  }

  private static void promise10() {
    now = "promise 10";
    LetOff x = Due.shown(JAM);
    due("step()", x.step(), 0);
    cars(x, 0, 2, 0, 3, -1, -1, -1);
    cars(x, 1, 1, 0, 0, -1, -1, -1);
    cars(x, 2, 8, 8, 20, 0, 0, 0);
    due("road(0, 2)", x.road(0, 2), 1);
    due("road(1, 2)", x.road(1, 2), 0);
    due("step()", x.step(), 0);
    cars(x, 0, 2, 1, 3, 0, -1, -1);
    cars(x, 1, 1, 0, 0, 1, -1, -1);
    cars(x, 2, 8, 7, 20, 20, 0, 0);
    cars(x, 3, 2, 2, 1, 0, 0, 0);
    due("count(9)", x.count(9), 0);
    due("step()", x.step(), 0);
    cars(x, 0, 2, 1, 3, 0, -1, -1);
    cars(x, 2, 8, 7, 20, 20, 0, 0);
    due("count(5)", x.count(5), 3);
    x.step();
    x.step();
    due("road(1, 2)", x.road(1, 2), 1);
    x.step();
    due("road(0, 2)", x.road(0, 2), 1);
    due("count(6)", x.count(6), 15);
    LetOff y = Due.shown(LONE);
    int[] off = {0, 2, 0, 1, 0};
    for (int k = 0; k < 5; k++) due("step() " + k, y.step(), off[k]);
    due("count(7)", y.count(7), 2);
    cars(y, 0, -1, -1);
    cars(y, 1, -1, -1);
    cars(y, 2, 0, 0);
    cars(y, 3, 0, 0);
  }

  private static void promise10Order() {
    now = "promise 10, edges";
    // CAR 0 moves ahead of CAR 1, into the last free cell; CAR 1 then finds its own next cell free.
    LetOff x = Due.shown("show 3;road 0 20;car 1 0 9;car 0 0 9");
    Due.rule(x, "go 0");
    x.force(0);
    x.step();
    cars(x, 0, 2, 1, 0);
    LetOff y = Due.shown("show 3;road 0 20;car 0 0 9;car 1 0 9");
    Due.rule(y, "go 0");
    y.force(0);
    y.step();
    cars(y, 0, 0, 2);
    due("road(0, 2)", y.road(0, 2), 1);
    // Without FUEL one stands, even where it WANTS to go off.
    LetOff z = Due.shown("show 3;road 0 20;car 0 0 0");
    due("step()", z.step(), 0);
    cars(z, 0, 0);
    cars(z, 3, 1);
    // No more than six are ON, no more than 99 wait.
    LetOff six = Due.shown("show 9;road 0 1;car 1 0 0;car 2 0 0;car 3 0 0;car 4 0 0;car 5 0 0;car 6 0 0");
    for (int k = 0; k < 110; k++) six.step();
    due("road(0, 2)", six.road(0, 2), 99);
    due("count(6)", six.count(6), 63);
    // Two ROADS: the next one is WANTED, by the last the first.
    LetOff two = Due.shown("show 9;road 0 1;road 5 1");
    two.step();
    cars(two, 1, 1, 0);
    cars(two, 0, 0, 5);
    due("count(9)", two.count(9), 0);
    LetOff last = Due.shown("show 3");
    for (int k = 0; k < 999; k++) last.step();
    due("step() in STEP 999", last.step(), -1);
    due("count(5)", last.count(5), 999);
    due("still(): what is asked goes on beyond", last.still(), 999);
    // EVERY 3: in the STEPS 0, 3, 6; a gap lets nobody on.
    LetOff gap = Due.shown("show 9;gap 0;road 0 3");
    int[] waiting = {1, 1, 1, 2, 2, 2, 3};
    for (int k = 0; k < 7; k++) {
      gap.step();
      due("road(0, 2) behind STEP " + k, gap.road(0, 2), waiting[k]);
    }
  }

  private static void promise11() {
    now = "promise 11";
    LetOff x = Due.shown(JAM);
    due("pole(0, 20)", x.pole(0, 20), 29);
    due("pole(0, 1)", x.pole(0, 1), 30);
    due("pole(0, 0)", x.pole(0, 0), -1);
    due("pole(0, 21)", x.pole(0, 21), -1);
    due("pole(2, 1)", x.pole(2, 1), -1);
    due("pole(-1, 1)", x.pole(-1, 1), -1);
    due("pole(6, 1)", x.pole(6, 1), -1);
    for (int k = 50; k <= 90; k += 20) due("pole(0, 20)", x.pole(0, 20), k);
    due("pole(0, 20)", x.pole(0, 20), 99);
    due("pole(0, 20)", x.pole(0, 20), 99);
    due("count(11)", x.count(11), 7);
  }

  private static void promises12And13() {
    now = "promises 12, 13";
    LetOff x = Due.shown(JAM);
    due("grass(2)", x.grass(2), -1);
    due("grass(6)", x.grass(6), -1);
    due("grass(-1)", x.grass(-1), -1);
    due("count(11)", x.count(11), 0);
    due("grass(1)", x.grass(1), 5);
    due("gapIn(5)", x.gapIn(5), 1);
    due("count(8)", x.count(8), 2);
    due("count(7)", x.count(7), 1);
    due("count(6)", x.count(6), 1);
    due("grass(1)", x.grass(1), -1);
    due("fill(3)", x.fill(3), -1);
    due("fill(6)", x.fill(6), -1);
    due("fill(-1)", x.fill(-1), -1);
    due("fill(36)", x.fill(36), -1);
    due("fill(4)", x.fill(4), 1);
    due("gapIn(4)", x.gapIn(4), 0);
    due("fill(4)", x.fill(4), -1);
    due("fill(5)", x.fill(5), 0);
    due("count(11)", x.count(11), 3);
  }

  private static void promise14() {
    now = "promise 14";
    LetOff x = Due.shown(JAM);
    due("wish(0, 1)", x.wish(0, 1), -1);
    due("wish(0, 2)", x.wish(0, 2), -1);
    due("wish(0, -1)", x.wish(0, -1), -1);
    due("wish(2, 0)", x.wish(2, 0), -1);
    due("wish(0, 0)", x.wish(0, 0), 1);
    due("car(0, 1)", x.car(0, 1), 0);
    due("wish(0, 1)", x.wish(0, 1), 0);
    due("count(11)", x.count(11), 2);
  }

  private static void promise15() {
    now = "promise 15";
    LetOff x = Due.shown(JAM);
    x.pole(0, 5);
    x.grass(1);
    x.fill(4);
    x.wish(0, 0);
    x.step();
    due("undo()", x.undo(), 4);
    due("count(5)", x.count(5), 0);
    cars(x, 0, 1, -1, -1);
    due("road(0, 2)", x.road(0, 2), 0);
    due("undo()", x.undo(), 3);
    due("car(0, 1)", x.car(0, 1), 1);
    due("undo()", x.undo(), 2);
    due("gapIn(4)", x.gapIn(4), 1);
    due("undo()", x.undo(), 1);
    due("gapIn(5)", x.gapIn(5), 0);
    due("count(7)", x.count(7), 0);
    cars(x, 0, 1, 5);
    cars(x, 1, 1, 0);
    due("undo()", x.undo(), 0);
    due("car(0, 2)", x.car(0, 2), 9);
    due("undo()", x.undo(), -1);
    for (int k = 0; k < 25; k++) x.step();
    due("count(11)", x.count(11), 20);
    Due.rule(x, "go 1");
    x.force(0);
    x.seed(5);
    for (int k = 19; k >= 0; k--) due("undo()", x.undo(), k);
    due("undo()", x.undo(), -1);
    due("count(5)", x.count(5), 5);
    due("count(4)", x.count(4), 0);
    due("count(12)", x.count(12), 5);
  }

  private static void promise16() {
    now = "promise 16";
    LetOff x = Due.shown(JAM);
    due("ahead(0, 0, 0)", x.ahead(0, 0, 0), 1);
    due("ahead(0, 1, 0)", x.ahead(0, 1, 0), 2);
    due("ahead(1, 2, 0)", x.ahead(1, 2, 0), 1);
    due("ahead(1, 2, 1)", x.ahead(1, 2, 1), 7);
    due("ahead(2, 1, 1)", x.ahead(2, 1, 1), 20);
    due("ahead(3, 1, 0)", x.ahead(3, 1, 0), -1);
    due("ahead(3, 1, 1)", x.ahead(3, 1, 1), 0);
    due("ahead(3, 100, 0)", x.ahead(3, 100, 0), 0);
    due("ahead(9, 5, 2)", x.ahead(9, 5, 2), 0);
    due("ahead(0, 101, 0)", x.ahead(0, 101, 0), -2);
    due("ahead(0, -1, 0)", x.ahead(0, -1, 0), -2);
    due("ahead(6, 1, 0)", x.ahead(6, 1, 0), -2);
    due("ahead(-1, 1, 1)", x.ahead(-1, 1, 1), -2);
    due("ahead(0, 1, 3)", x.ahead(0, 1, 3), -2);
    due("ahead(0, 1, -1)", x.ahead(0, 1, -1), -2);
    due("count(5)", x.count(5), 0);
    due("count(11)", x.count(11), 0);
    LetOff y = Due.shown(LONE);
    int[] off = {0, 0, 1, 1, 2};
    for (int n = 0; n < 5; n++) due("ahead(0, " + n + ", 2)", y.ahead(0, n, 2), off[n]);
    y.step();
    y.step();
    due("ahead(0, 0, 2): in all", y.ahead(0, 0, 2), 1);
  }

  private static void promises17And18() {
    now = "promises 17, 18";
    LetOff x = Due.shown(JAM);
    due("lets(0)", x.lets(0), -2);
    due("lets(2)", x.lets(2), -1);
    due("lets(6)", x.lets(6), -1);
    due("lets(-1)", x.lets(-1), -1);
    due("still()", x.still(), 2);
    LetOff y = Due.shown(LONE);
    due("lets(0)", y.lets(0), 3);
    due("still()", y.still(), 4);
    y.step();
    due("lets(0) a STEP later", y.lets(0), 3);
    due("lets(1)", y.lets(1), 1);
    due("still()", y.still(), 4);
    // The 200th STEP of these is STEP 199.
    LetOff z = Due.shown("show 3;road 0 1;gap 1;car 0 0 9");
    Due.rule(z, "go 1 if step = 199");
    Due.rule(z, "go 1 if step = 200");
    Due.rule(z, "go 1");
    z.force(0);
    due("lets(0)", z.lets(0), 199);
    due("still()", z.still(), 0);
    z.force(1);
    due("lets(0)", z.lets(0), -2);
    // Each STEP somebody goes off, and the next comes on: never still.
    z.force(2);
    due("still()", z.still(), -2);
    due("still()", Due.shown("show 3").still(), 0);
    Due.rule(z, "go 1 if step < 199");
    Due.rule(z, "go 1 if step < 200");
    z.force(3);
    due("still()", z.still(), 199);
    z.force(4);
    due("still()", z.still(), -2);
    z.step();
    due("still()", z.still(), 200);
  }

  private static void promise19() {
    now = "promise 19";
    LetOff x = Due.shown(LONE);
    due("leastFuel(0, 4)", x.leastFuel(0, 4), 3);
    due("leastFuel(0, 100)", x.leastFuel(0, 100), 3);
    due("leastFuel(0, 3)", x.leastFuel(0, 3), -2);
    due("leastFuel(0, 0)", x.leastFuel(0, 0), -1);
    due("leastFuel(0, 101)", x.leastFuel(0, 101), -1);
    due("leastFuel(1, 4)", x.leastFuel(1, 4), -1);
    due("leastFuel(6, 4)", x.leastFuel(6, 4), -1);
    due("car(0, 2)", x.car(0, 2), 10);
    LetOff y = Due.shown("show 3;road 0 20;car 0 0 9");
    Due.rule(y, "go 1 if fuel = 60");
    Due.rule(y, "go 1 if fuel = 61");
    y.force(0);
    due("leastFuel(0, 1)", y.leastFuel(0, 1), 60);
    y.force(1);
    due("leastFuel(0, 1)", y.leastFuel(0, 1), -2);
  }

  private static void promises20And21() {
    now = "promises 20, 21";
    LetOff x = Due.shown(JAM);
    Due.rule(x, "go 1");
    for (int k = 0; k < 3; k++) x.step();
    x.force(0);
    due("bestGrass(40, 0)", x.bestGrass(40, 0), -1);
    due("bestFill(2, 0)", x.bestFill(2, 0), -1);
    due("bestFill(2, 1)", x.bestFill(2, 1), 0);
    due("bestFill(3, 0)", x.bestFill(3, 0), 4);
    due("bestFill(3, 1)", x.bestFill(3, 1), 1);
    due("bestFill(4, 1)", x.bestFill(4, 1), 2);
    due("gapIn(4)", x.gapIn(4), 1);
    for (int wrong : new int[] {0, 41, -1}) {
      due("bestGrass(" + wrong + ", 0)", x.bestGrass(wrong, 0), -2);
      due("bestFill(" + wrong + ", 0)", x.bestFill(wrong, 0), -2);
    }
    for (int wrong : new int[] {2, -1}) {
      due("bestGrass(1, " + wrong + ")", x.bestGrass(1, wrong), -2);
      due("bestFill(1, " + wrong + ")", x.bestFill(1, wrong), -2);
    }
    LetOff y = Due.shown("show 4;road 1 20;road 2 20;car 1 0 9;car 2 1 0");
    Due.rule(y, "go off");
    y.force(0);
    // By GRASS one is OFF, so that the RULE lets the other go: CAR 1 had best go over the GRASS.
    due("bestGrass(1, 0)", y.bestGrass(1, 0), 1);
    due("bestGrass(1, 1): itself not counted", y.bestGrass(1, 1), 1);
    due("count(7)", y.count(7), 0);
    // Either gap filled lets one CAR off in two STEPS: of several the least.
    LetOff z = Due.shown("show 6;road 1 20;road 4 20;gap 4;gap 1;car 0 0 9;car 3 1 9");
    Due.rule(z, "go 1");
    z.force(0);
    due("bestFill(2, 0)", z.bestFill(2, 0), 1);
    due("bestFill(2, 1)", z.bestFill(2, 1), 1);
  }

  private static void promise22() {
    now = "promise 22";
    LetOff x = Due.shown("show 5;road 2 1;car 1 0 9");
    due("closed(1, 0)", x.closed(1, 0), -1);
    due("closed(1, 1)", x.closed(1, 1), 0);
    due("closed(2, 0)", x.closed(2, 0), 0);
    due("closed(2, 1)", x.closed(2, 1), 1);
    due("closed(0, 0)", x.closed(0, 0), -2);
    due("closed(41, 0)", x.closed(41, 0), -2);
    due("closed(1, 2)", x.closed(1, 2), -2);
    x.step();
    // One waits there now: closed, nobody does.
    due("road(0, 2)", x.road(0, 2), 1);
    due("closed(1, 0)", x.closed(1, 0), 0);
    due("closed(1, 1)", x.closed(1, 1), 1);
    due("road(0, 2)", x.road(0, 2), 1);
  }

  private static void promise23() {
    now = "promise 23";
    LetOff x = Due.shown(TWO_READY);
    Due.rule(x, "go 0");
    x.force(0);
    due("row(1, 0)", x.row(1, 0), 2);
    due("row(1, 1)", x.row(1, 1), 3);
    due("row(1, 2)", x.row(1, 2), -2);
    due("row(1, 3)", x.row(1, 3), -2);
    due("row(2, 0)", x.row(2, 0), 2);
    due("row(2, 1)", x.row(2, 1), 3);
    due("row(2, 2)", x.row(2, 2), 0);
    due("row(2, 3)", x.row(2, 3), -2);
    for (int wrong : new int[] {0, 4, -1}) due("row(" + wrong + ", 0)", x.row(wrong, 0), -1);
    due("row(1, 4)", x.row(1, 4), -1);
    due("row(1, -1)", x.row(1, -1), -1);
    due("count(5)", x.count(5), 0);
    // Here nobody can, or has no FUEL: empty sets, the first of all.
    LetOff y = Due.shown("show 6;road 1 20;car 1 0 0");
    due("row(3, 0)", y.row(3, 0), 0);
    for (int k = 1; k <= 3; k++) due("row(3, " + k + ")", y.row(3, k), 0);
    // In STEP 0 one comes ON at CELL 1, that WANTS this ROAD: OFF in STEP 1, CAR 0 in STEP 2.
    LetOff z = Due.shown("show 6;road 1 20;car 5 0 9");
    due("row(3, 0)", z.row(3, 0), 1);
    due("row(3, 2)", z.row(3, 2), 2);
    z.step();
    z.grass(1);
    due("row(1, 0): over the GRASS went OFF by no row", z.row(1, 0), 0);
    LetOff w = Due.shown(TWO_READY);
    w.grass(0);
    due("row(1, 0): the one by the row alone", w.row(1, 0), 1);
    due("row(1, 1)", w.row(1, 1), 2);
    w.undo();
    due("step()", w.step(), 3);
    due("count(7)", w.count(7), 2);
    due("row(3, 0): those of the STEP ahead are not counted", w.row(3, 0), 0);
  }

  private static void promise24() {
    now = "promise 24";
    LetOff x = Due.shown("show 5;road 2 20;road 4 20;car 1 0 10");
    Due.rule(x, "go 1");
    x.force(0);
    due("wished(0, 0)", x.wished(0, 0), 2);
    due("wished(0, 1)", x.wished(0, 1), 3);
    x.note(1, 0, 2);
    due("wished(0, 1)", x.wished(0, 1), 3);
    x.note(2, 0, 3);
    due("wished(0, 0)", x.wished(0, 0), 1);
    due("wished(0, 1)", x.wished(0, 1), 2);
    due("wished(1, 0)", x.wished(1, 0), -1);
    due("wished(-1, 0)", x.wished(-1, 0), -1);
    due("wished(0, 2)", x.wished(0, 2), -1);
    due("wished(0, -1)", x.wished(0, -1), -1);
    // From the begin on, whatever was done since.
    x.step();
    x.grass(0);
    due("wished(0, 1)", x.wished(0, 1), 2);
    // Without a RULE it goes on there, as one waits: both can have been.
    x.force(-1);
    due("wished(0, 1)", x.wished(0, 1), 3);
    x.note(2, 0, -1);
    due("wished(0, 0)", x.wished(0, 0), 0);
    due("wished(0, 1)", x.wished(0, 1), 0);
  }

  private static void promise25() {
    now = "promise 25";
    LetOff x = Due.shown(JAM);
    int[][] want = {{10, 2, 8, 1}, {9, 2, 8, 1}, {8, 1, 0, 0}, {1, 1, 0, 0}};
    for (int[] w : want)
      for (int what = 0; what < 3; what++) due("longest(" + w[0] + ", " + what + ")", x.longest(w[0], what), w[what + 1]);
    due("longest(0, 0)", x.longest(0, 0), -1);
    due("longest(101, 0)", x.longest(101, 0), -1);
    due("longest(1, 3)", x.longest(1, 3), -1);
    due("longest(1, -1)", x.longest(1, -1), -1);
    x.step();
    due("longest(3, 0)", x.longest(3, 0), 0);
    due("longest(3, 1)", x.longest(3, 1), 1);
    due("longest(3, 2)", x.longest(3, 2), 0);
    due("longest(4, 1)", x.longest(4, 1), 4);
    due("longest(4, 2)", x.longest(4, 2), 1);
    LetOff y = Due.shown("show 3");
    due("longest(5, 0)", y.longest(5, 0), 0);
    due("longest(5, 1)", y.longest(5, 1), -2);
    due("longest(5, 2)", y.longest(5, 2), -2);
  }

  private static void promise26() {
    now = "promise 26";
    LetOff x = Due.shown("show 4;road 0 20;road 2 20;car 0 0 9;car 1 1 9");
    Due.rule(x, "go 1");
    x.force(0);
    due("rests(0, 1, 3, 0)", x.rests(0, 1, 3, 0), 1);
    due("rests(0, 1, 3, 1)", x.rests(0, 1, 3, 1), 0);
    due("rests(0, 1, 3, 2)", x.rests(0, 1, 3, 2), 1);
    due("rests(1, 0, 3, 1)", x.rests(1, 0, 3, 1), 1);
    due("rests(1, 0, 3, 2)", x.rests(1, 0, 3, 2), 0);
    // In one STEP only CAR 0 can be OFF, so CAR 1 may WANT either.
    due("rests(0, 1, 1, 0)", x.rests(0, 1, 1, 0), 2);
    due("rests(0, 1, 1, 1)", x.rests(0, 1, 1, 1), 0);
    due("rests(0, 1, 1, 2)", x.rests(0, 1, 1, 2), 0);
    due("rests(0, 0, 3, 0)", x.rests(0, 0, 3, 0), -1);
    due("rests(0, 2, 3, 0)", x.rests(0, 2, 3, 0), -1);
    due("rests(0, 6, 3, 0)", x.rests(0, 6, 3, 0), -1);
    due("rests(-1, 0, 3, 0)", x.rests(-1, 0, 3, 0), -1);
    due("rests(0, 1, 0, 0)", x.rests(0, 1, 0, 0), -1);
    due("rests(0, 1, 21, 0)", x.rests(0, 1, 21, 0), -1);
    due("rests(0, 1, 3, 3)", x.rests(0, 1, 3, 3), -1);
    due("rests(0, 1, 3, -1)", x.rests(0, 1, 3, -1), -1);
    LetOff y = Due.shown("show 4;road 0 20;road 2 20;car 0 0 9;car 2 1 9");
    Due.rule(y, "go 0");
    y.force(0);
    due("rests(0, 1, 5, 0): none is ever off", y.rests(0, 1, 5, 0), 4);
    due("rests(0, 1, 5, 1)", y.rests(0, 1, 5, 1), 0);
  }

  private static void promise27() {
    now = "promise 27";
    LetOff x = Due.shown(JAM);
    due("ring(0)", x.ring(0), 2);
    due("ring(1)", x.ring(1), 1);
    due("ring(2)", x.ring(2), -1);
    due("ring(-1)", x.ring(-1), -1);
    x.step();
    due("ring(0)", x.ring(0), 2);
    x.step();
    x.step();
    due("ring(0)", x.ring(0), 3);
    due("ring(1), alone", Due.shown("show 3").ring(1), 1);
    due("ring(0), alone", Due.shown("show 3").ring(0), 0);
    LetOff z = Due.shown("show 4;road 0 20;car 1 0 60");
    Due.rule(z, "go 0");
    z.force(0);
    // From STEP 1 on two go round in 4; a third comes in STEP 20, beyond the first such.
    due("ring(0)", z.ring(0), 1);
    due("ring(1)", z.ring(1), 4);
    // At the begins of STEPS 42 and 61 all is alike: one STEP too late for STEP 0, not for STEP 1.
    LetOff late = Due.shown("show 15;road 4 5;road 8 7;road 11 11;road 0 9;car 8 1 56;car 0 2 41");
    Due.rule(late, "go 1");
    late.force(0);
    due("ring(0)", late.ring(0), -2);
    due("ring(1)", late.ring(1), -2);
    late.step();
    due("ring(0)", late.ring(0), 42);
    due("ring(1)", late.ring(1), 19);
  }

  private static void promise28() {
    now = "promise 28";
    LetOff x = Due.shown(JAM);
    due("litres(7, 0)", x.litres(7, 0), 4);
    due("litres(7, 1)", x.litres(7, 1), 3);
    due("litres(7, 2)", x.litres(7, 2), 0);
    due("litres(0, 0)", x.litres(0, 0), 0);
    due("litres(9999, 0)", x.litres(9999, 0), 5000);
    due("litres(9999, 1)", x.litres(9999, 1), 4999);
    due("litres(10000, 0)", x.litres(10000, 0), -1);
    due("litres(-1, 0)", x.litres(-1, 0), -1);
    due("litres(1, 6)", x.litres(1, 6), -1);
    due("litres(1, -1)", x.litres(1, -1), -1);
    // 99, 69 and 39 short of 207; 10: 4.78, 3.33, 1.88: the last and the first have one more.
    LetOff y = Due.shown("show 6;road 0 1;car 0 0 0;car 1 0 30;car 2 0 60");
    due("litres(10, 0)", y.litres(10, 0), 5);
    due("litres(10, 1)", y.litres(10, 1), 3);
    due("litres(10, 2)", y.litres(10, 2), 2);
    // 1: only who lost most.
    due("litres(1, 0)", y.litres(1, 0), 1);
    due("litres(1, 2)", y.litres(1, 2), 0);
    LetOff z = Due.shown("show 6;road 0 1;car 0 0 60");
    z.pole(0, 20);
    z.pole(0, 20);
    due("litres(5, 0): none is short", z.litres(5, 0), 0);
    due("litres(5, 0): none is ON", Due.shown("show 3").litres(5, 0), 0);
  }

  private static void promise29() {
    now = "promise 29";
    LetOff x = Due.shown(JAM);
    due("note(0, 0, 1)", x.note(0, 0, 1), 1);
    due("note(60, 5, NONE)", x.note(60, 5, -1), 2);
    due("note(61, 0, 0)", x.note(61, 0, 0), -2);
    due("note(-2, 0, 0)", x.note(-2, 0, 0), -2);
    due("note(0, 6, 0)", x.note(0, 6, 0), -2);
    due("note(0, -1, 0)", x.note(0, -1, 0), -2);
    due("note(0, 0, 6)", x.note(0, 0, 6), -2);
    due("note(0, 0, -2)", x.note(0, 0, -2), -2);
    due("note(0, 0, 5)", x.note(0, 0, 5), 3);
    for (int k = 4; k <= 10; k++) due("note", x.note(0, 0, 5), k);
    due("note, the eleventh", x.note(0, 0, 5), -2);
    due("count(10)", x.count(10), 10);
    due("count(11)", x.count(11), 0);
    due("note(NONE, 9, 99)", x.note(-1, 9, 99), 0);
    due("count(10)", x.count(10), 0);
  }

  private static void promises30And31() {
    now = "promises 30, 31";
    LetOff x = Due.shown("show 5;road 2 20;car 1 0 10");
    due("ruled(0)", x.ruled(0), 1);
    due("ruled(1)", x.ruled(1), -1);
    Due.rule(x, "go 0");
    Due.rule(x, "go 1");
    due("ruled(0)", x.ruled(0), 3);
    due("ruled(1)", x.ruled(1), -1);
    due("look(0, 0)", x.look(0, 0), 0);
    due("look(0, 1)", x.look(0, 1), 3);
    // At the begin of STEP 3 CAR 0 is in 4, 4, not ON; CAR 1 not ON, in 3, not ON.
    due("look(3, 0)", x.look(3, 0), 0);
    due("look(3, 1)", x.look(3, 1), 2);
    due("note(2, 0, 3)", x.note(2, 0, 3), 1);
    due("ruled(0)", x.ruled(0), 2);
    due("ruled(1)", x.ruled(1), -1);
    due("look(2, 0)", x.look(2, 0), 0);
    due("look(2, 1)", x.look(2, 1), 2);
    due("look(3, 0)", x.look(3, 0), 1);
    due("look(3, 1)", x.look(3, 1), 1);
    x.force(1);
    x.step();
    due("note(3, 1, 3)", x.note(3, 1, 3), 2);
    due("ruled(0)", x.ruled(0), 1);
    due("ruled(1)", x.ruled(1), 0);
    due("note(3, 1, NONE)", x.note(3, 1, -1), 3);
    due("ruled(0)", x.ruled(0), 0);
    due("ruled(1)", x.ruled(1), -2);
    due("look(3, 0)", x.look(3, 0), -2);
    due("look(3, 1)", x.look(3, 1), -2);
    due("ruled(2)", x.ruled(2), -3);
    due("ruled(-1)", x.ruled(-1), -3);
    due("look(61, 0)", x.look(61, 0), -1);
    due("look(-1, 0)", x.look(-1, 0), -1);
    due("look(0, 2)", x.look(0, 2), -1);
    due("look(0, -1)", x.look(0, -1), -1);
  }

  private static void promises32And33() {
    now = "promises 32, 33";
    LetOff x = new LetOff();
    due("seed(2147483647)", x.seed(2147483647), 0);
    due("seed(-1)", x.seed(-1), -1);
    due("seed(0)", x.seed(0), 2147483647);
    // Nobody can come on: each STEP's draw is seen in how many wait; one comes of itself in STEP 0.
    Due.show(x, "show 3;gap 0;road 0 20");
    due("shows(2, 4, 0, 1)", x.shows(2, 4, 0, 1), 2);
    due("shows(2, 4, 100, 1)", x.shows(2, 4, 100, 1), 10);
    due("shows(2, 4, 100, 0)", x.shows(2, 4, 100, 0), 0);
    due("shows(1, 1, 1, 1)", x.shows(1, 1, 1, 1), 2);
    due("count(12)", x.count(12), 0);
    due("count(9)", x.count(9), 0);
    drawnByHand(x);
    due("shows(10, 60, 100, 1)", x.shows(10, 60, 100, 1), 10 * 63);
    int[][] wrong = {{0, 1, 1, 0}, {11, 1, 1, 0}, {1, 0, 1, 0}, {1, 61, 1, 0}, {1, 1, -1, 0}, {1, 1, 101, 0}, {1, 1, 1, 2}, {1, 1, 1, -1}};
    for (int[] w : wrong) due("shows, wrong", x.shows(w[0], w[1], w[2], w[3]), -1);
    // Without ROADS only the first draw is drawn.
    due("shows without ROADS", Due.shown("show 3").shows(10, 60, 100, 1), 0);
    LetOff y = Due.shown(LONE);
    due("shows(3, 4, 0, 0)", y.shows(3, 4, 0, 0), 6);
    due("count(7)", y.count(7), 0);
  }

  private static void drawnByHand(LetOff x) {
    for (int seed = 0; seed < 5; seed++) {
      x.seed(seed * 123456789 & 0x7fffffff);
      long draws = seed * 123456789 & 0x7fffffff;
      int waiting = 0;
      for (int k = 0; k < 3; k++) {
        waiting++;
        for (int i = 0; i < 7; i++) {
          draws = (draws * 1103515245L + 12345L) % 2147483648L;
          if (draws / 65536 % 100 >= 40) continue;
          draws = (draws * 1103515245L + 12345L) % 2147483648L;
          waiting++;
        }
      }
      due("shows(3, 7, 40, 1)", x.shows(3, 7, 40, 1), waiting);
    }
    x.seed(0);
  }

  private static void promise34() {
    now = "promise 34";
    LetOff x = Due.shown(JAM);
    Due.rule(x, "go 1");
    Due.rule(x, "go 0");
    x.force(1);
    x.step();
    x.grass(1);
    x.note(1, 1, 1);
    x.seed(9);
    x.feed(0, 0, 0, 0, 0);
    int[] counts = {6, 2, 2, 2, 1, 1, 5, 1, 2, 1, 1, 2, 9, 20};
    for (int what = 0; what < 14; what++) due("count(" + what + ")", x.count(what), counts[what]);
    due("count(14)", x.count(14), -1);
    due("count(-1)", x.count(-1), -1);
  }

  private static void promises35And36() {
    now = "promises 35, 36";
    LetOff x = new LetOff();
    due("image(4)", x.image(4), -1);
    due("image(-1)", x.image(-1), -1);
    due("back(0)", x.back(0), -1);
    due("image(0)", x.image(0), 0);
    Due.show(x, JAM);
    Due.rule(x, "go 1");
    x.force(0);
    x.seed(9);
    x.step();
    x.note(1, 0, 2);
    due("image(3)", x.image(3), 1);
    due("count(11)", x.count(11), 1);
    x.step();
    x.grass(0);
    x.note(1, 0, 2);
    x.force(-1);
    x.seed(10);
    Due.rule(x, "go 0");
    Due.show(x, LONE);
    x.step();
    x.step();
    x.feed(0, 0, 0, 0, 0);
    due("back(4)", x.back(4), -1);
    due("back(-1)", x.back(-1), -1);
    due("back(1)", x.back(1), -1);
    due("count(5)", x.count(5), 2);
    due("back(3)", x.back(3), 1);
    int[] counts = {6, 2, 2, 2, 0, 1, 7, 0, 1, 1, 1, 0, 9, 20};
    for (int what = 0; what < 14; what++) due("count(" + what + ")", x.count(what), counts[what]);
    cars(x, 0, 2, 0, 3, -1);
    cars(x, 1, 1, 0, 0, -1);
    cars(x, 2, 8, 8, 20, 0);
    cars(x, 3, 1, 1, 0, 0);
    due("undo()", x.undo(), -1);
    due("wished(1, 0): the text, too", x.wished(1, 0), 2);
    x.step();
    due("back(3)", x.back(3), 1);
    due("count(5)", x.count(5), 1);
    // The NOTES of the image are told again, not those that came since.
    x.note(-1, 0, 0);
    x.note(0, 0, 5);
    due("ruled(0)", x.ruled(0), 0);
    due("back(3)", x.back(3), 1);
    due("ruled(0)", x.ruled(0), 3);
    x.note(-1, 0, 0);
    x.note(0, 0, 1);
    x.image(2);
    x.note(-1, 0, 0);
    x.note(5, 5, 5);
    due("ruled(0)", x.ruled(0), 0);
    due("back(2)", x.back(2), 1);
    due("ruled(0)", x.ruled(0), 3);
    due("back(0): there was no SHOW", x.back(0), 0);
    due("step()", x.step(), -1);
    due("count(0)", x.count(0), 0);
    due("count(3)", x.count(3), 2);
    due("count(4)", x.count(4), -1);
  }
}
