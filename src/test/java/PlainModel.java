import java.util.ArrayDeque;
import java.util.ArrayList;
import java.util.Deque;
import java.util.HashMap;
import java.util.List;
import java.util.Map;
import java.util.TreeMap;

/** A second LetOff, slow and plain, read anew from the document: what RandomRunsTest compares with. */
final class PlainModel {
  static final class Fault extends RuntimeException {
    final int number;
    Fault(int place, int kind) { number = 1 + 8 * place + kind; }
  }

  static final class Car {
    int cell, want, fuel, age;
    Car(int cell, int want, int fuel, int age) { this.cell = cell; this.want = want; this.fuel = fuel; this.age = age; }
  }

  static final class World {
    int size, told;
    List<int[]> roads = new ArrayList<>();          // cell, every
    List<Integer> waits = new ArrayList<>();
    TreeMap<Integer, Car> cars = new TreeMap<>();
    java.util.TreeSet<Integer> gaps = new java.util.TreeSet<>();
    int step, off;
    int closed = -1;
    boolean moved;
    World copy() {
      World w = new World();
      w.size = size; w.told = told; w.roads = roads; w.waits = new ArrayList<>(waits);
      for (Map.Entry<Integer, Car> e : cars.entrySet()) {
        Car c = e.getValue();
        w.cars.put(e.getKey(), new Car(c.cell, c.want, c.fuel, c.age));
      }
      w.gaps.addAll(gaps); w.step = step; w.off = off; w.closed = closed;
      return w;
    }
    boolean carIn(int cell) { return cars.values().stream().anyMatch(c -> c.cell == cell); }
    int cellOf(int car) { return cars.containsKey(car) ? cars.get(car).cell : -1; }
    int waiting() { return waits.stream().mapToInt(i -> i).sum(); }
  }

  interface Expr { long of(World w, int car); }
  static final class Clause { Expr sum, test; }

  // ---- the texts ----
  static final class Parser {
    final String s; int p = 0; int counted = 0;
    Parser(String s) { this.s = s; }
    char at() { while (p < s.length() && s.charAt(p) == ' ') p++; return p < s.length() ? s.charAt(p) : '\uffff'; }
    boolean digit() { char c = at(); return c >= '0' && c <= '9'; }
    String peekWord() {
      at();
      int q = p;
      while (q < s.length() && s.charAt(q) >= 'a' && s.charAt(q) <= 'z') q++;
      return s.substring(p, q);
    }
    Fault fault(int kind) { at(); return new Fault(p, kind); }
    void sign(char c) { if (at() != c) throw fault(0); p++; }
    String digits() {
      if (!digit()) throw fault(0);
      int q = p;
      while (q < s.length() && s.charAt(q) >= '0' && s.charAt(q) <= '9') q++;
      return s.substring(p, q);
    }
    int number(int least, int most, java.util.Collection<Integer> barred) {
      String d = digits();
      if (d.length() > 5) throw fault(1);
      int n = Integer.parseInt(d);
      if (n < least || n > most || barred.contains(n)) throw fault(1);
      p += d.length();
      return n;
    }

    World show() {
      World w = new World();
      for (int clause = 0;; clause++) {
        String word = peekWord();
        if (!List.of("show", "road", "car", "gap").contains(word)) throw fault(0);
        if (clause == 40) throw fault(4);
        if (word.equals("show") != (clause == 0)) throw fault(4);
        if (word.equals("road") && w.roads.size() == 5) throw fault(4);
        if (word.equals("car") && w.told == 6) throw fault(4);
        p += word.length();
        List<Integer> cars = new ArrayList<>();
        for (Car c : w.cars.values()) cars.add(c.cell);
        if (word.equals("show")) {
          w.size = number(3, 20, List.of());
        } else if (word.equals("road")) {
          List<Integer> cells = new ArrayList<>();
          for (int[] r : w.roads) cells.add(r[0]);
          int cell = number(0, w.size - 1, cells);
          int every = number(1, 20, List.of());
          w.roads.add(new int[] {cell, every});
          w.waits.add(0);
        } else if (word.equals("car")) {
          cars.addAll(w.gaps);
          int cell = number(0, w.size - 1, cars);
          int road = number(0, w.roads.size() - 1, List.of());
          int fuel = number(0, 60, List.of());
          w.cars.put(w.told++, new Car(cell, road, fuel, 0));
        } else {
          w.gaps.add(number(0, w.size - 1, cars));
        }
        if (at() == '\uffff' && p == s.length()) return w;
        sign(';');
      }
    }

    List<Clause> rule() {
      List<Clause> all = new ArrayList<>();
      while (true) {
        if (!peekWord().equals("go")) throw fault(0);
        if (all.size() == 12) throw fault(4);
        p += 2;
        Clause c = new Clause();
        c.sum = sum();
        if (peekWord().equals("if")) { p += 2; c.test = test(0); }
        all.add(c);
        if (at() == '\uffff' && p == s.length()) return all;
        sign(';');
      }
    }
    Expr test(int deep) {
      Expr left = part(deep);
      while (peekWord().equals("or")) {
        p += 2;
        Expr a = left, b = part(deep);
        left = (w, c) -> a.of(w, c) != 0 || b.of(w, c) != 0 ? 1 : 0;
      }
      return left;
    }
    Expr part(int deep) {
      Expr left = fact(deep);
      while (peekWord().equals("and")) {
        p += 3;
        Expr a = left, b = fact(deep);
        left = (w, c) -> a.of(w, c) != 0 && b.of(w, c) != 0 ? 1 : 0;
      }
      return left;
    }
    Expr fact(int deep) {
      if (peekWord().equals("not")) {
        if (deep == 10) throw fault(2);
        p += 3;
        Expr a = fact(deep + 1);
        return (w, c) -> a.of(w, c) == 0 ? 1 : 0;
      }
      if (at() == '[') {
        if (deep == 10) throw fault(2);
        p++;
        Expr a = test(deep + 1);
        sign(']');
        return a;
      }
      Expr a = sum();
      char c = at();
      if (c != '<' && c != '>' && c != '=') throw fault(0);
      if (++counted > 60) throw fault(3);
      p++;
      boolean orEqual = c != '=' && p < s.length() && s.charAt(p) == '=';
      if (orEqual) p++;
      Expr b = sum();
      return (w, k) -> {
        int cmp = Long.compare(a.of(w, k), b.of(w, k));
        boolean yes = c == '=' ? cmp == 0 : c == '<' ? cmp < 0 : cmp > 0;
        return yes || (orEqual && cmp == 0) ? 1 : 0;
      };
    }
    Expr sum() {
      Expr left = term();
      while (at() == '+' || at() == '-') {
        char c = s.charAt(p++);
        Expr a = left, b = term();
        left = (w, k) -> c == '+' ? a.of(w, k) + b.of(w, k) : a.of(w, k) - b.of(w, k);
      }
      return left;
    }
    Expr term() {
      Expr left = value();
      while (at() == '*' || at() == '/' || at() == '%') {
        char c = s.charAt(p++);
        Expr a = left, b = value();
        left = (w, k) -> {
          long x = a.of(w, k), y = b.of(w, k);
          if (c == '*') return x * y;
          if (y == 0) return 0;
          return c == '/' ? x / y : x % y;
        };
      }
      return left;
    }
    Expr value() {
      if (digit()) {
        String d = digits();
        if (d.length() > 5) throw fault(1);
        if (++counted > 60) throw fault(3);
        p += d.length();
        long n = Long.parseLong(d);
        return (w, c) -> n;
      }
      String word = peekWord();
      Map<String, Expr> words = new HashMap<>();
      words.put("car", (w, c) -> c);
      words.put("road", (w, c) -> w.cars.get(c).want);
      words.put("fuel", (w, c) -> w.cars.get(c).fuel);
      words.put("waiting", (w, c) -> w.waits.get(w.cars.get(c).want));
      words.put("behind", (w, c) -> {
        for (int k = 1; k < w.size; k++) if (w.carIn(Math.floorMod(w.cars.get(c).cell - k, w.size))) return k;
        return w.size;
      });
      words.put("on", (w, c) -> w.cars.size());
      words.put("off", (w, c) -> w.off);
      words.put("rounds", (w, c) -> w.cars.get(c).age / w.size);
      words.put("every", (w, c) -> w.roads.get(w.cars.get(c).want)[1]);
      words.put("step", (w, c) -> w.step);
      if (!words.containsKey(word)) throw fault(0);
      if (++counted > 60) throw fault(3);
      p += word.length();
      return words.get(word);
    }
  }

  // ---- the state ----
  StringBuilder tape = new StringBuilder();
  List<List<Clause>> rules = new ArrayList<>();
  World begin, now;
  int force = -1, x = 0;
  List<int[]> notes = new ArrayList<>();
  Deque<World> undos = new ArrayDeque<>();
  Object[][] images = new Object[4][];

  boolean allowed(World w, int car, int rule) {
    if (rule == -1) return w.waits.get(w.cars.get(car).want) == 0;
    for (Clause c : rules.get(rule)) if (c.test == null || c.test.of(w, car) != 0) return c.sum.of(w, car) > 0;
    return false;
  }

  /** One STEP; set is the CARS let off, or null: by the rule. */
  int go(World w, int rule, Integer set) {
    int bits = 0;
    w.moved = false;
    for (int k : new ArrayList<>(w.cars.keySet())) {
      Car c = w.cars.get(k);
      boolean off = c.fuel > 0 && w.roads.get(c.want)[0] == c.cell
          && (set == null ? allowed(w, k, rule) : (set >> k & 1) == 1);
      if (off) {
        w.cars.remove(k); w.off++; bits |= 1 << k; w.moved = true;
        continue;
      }
      int next = (c.cell + 1) % w.size;
      if (c.fuel > 0 && !w.carIn(next) && !w.gaps.contains(next)) { c.cell = next; c.fuel--; w.moved = true; }
      c.age++;
    }
    for (int r = 0; r < w.roads.size(); r++) {
      if (r == w.closed) continue;
      if (w.step % w.roads.get(r)[1] == 0) w.waits.set(r, Math.min(99, w.waits.get(r) + 1));
      int cell = w.roads.get(r)[0];
      if (w.waits.get(r) > 0 && !w.carIn(cell) && !w.gaps.contains(cell) && w.cars.size() < 6) {
        int k = 0;
        while (w.cars.containsKey(k)) k++;
        w.cars.put(k, new Car(cell, (r + 1) % w.roads.size(), 20, 0));
        w.waits.set(r, w.waits.get(r) - 1);
        w.moved = true;
      }
    }
    w.step++;
    return bits;
  }

  World later(World from, int rule, int n) {
    World w = from.copy();
    for (int k = 0; k < n; k++) go(w, rule, null);
    return w;
  }

  static boolean in(int n, int a, int b) { return n >= a && n <= b; }
  boolean on(int car) { return now != null && now.cars.containsKey(car); }
  void act() { undos.addLast(now.copy()); if (undos.size() > 20) undos.removeFirst(); }

  int feed(int... five) {
    if (tape.length() + 20 > 400) return -1;
    for (int n : five) for (int s = 24; s >= 0; s -= 8) tape.append((char) (n >>> s & 255));
    return tape.length();
  }
  int end(int n) { if (n < 0 || n > tape.length()) return -1; tape.setLength(n); return n; }
  int show() {
    String text = tape.toString();
    tape.setLength(0);
    try {
      begin = new Parser(text).show();
    } catch (Fault f) { return -2 - f.number; }
    now = begin.copy(); notes.clear(); undos.clear();
    return begin.told;
  }
  int rule() {
    if (rules.size() == 6) return -1;
    String text = tape.toString();
    tape.setLength(0);
    try {
      rules.add(new Parser(text).rule());
    } catch (Fault f) { return -2 - f.number; }
    return rules.size() - 1;
  }
  int force(int r) { if (!in(r, -1, rules.size() - 1)) return -2; int was = force; force = r; return was; }
  int car(int car, int what) {
    if (now == null || !in(car, 0, 5) || !in(what, 0, 3)) return -2;
    Car c = now.cars.get(car);
    if (c == null) return what < 2 ? -1 : 0;
    return new int[] {c.cell, c.want, c.fuel, c.age}[what];
  }
  int road(int r, int what) {
    if (now == null || !in(r, 0, now.roads.size() - 1) || !in(what, 0, 2)) return -1;
    return what < 2 ? now.roads.get(r)[what] : now.waits.get(r);
  }
  int gapIn(int cell) { return now == null || !in(cell, 0, now.size - 1) ? -1 : now.gaps.contains(cell) ? 1 : 0; }
  int step() { if (now == null || now.step >= 999) return -1; act(); return go(now, force, null); }
  int pole(int car, int much) {
    if (!on(car) || !in(much, 1, 20)) return -1;
    act();
    return now.cars.get(car).fuel = Math.min(99, now.cars.get(car).fuel + much);
  }
  static int overGrass(World w, int car) { int cell = w.cars.remove(car).cell; w.gaps.add(cell); w.off++; return cell; }
  int grass(int car) { if (!on(car)) return -1; act(); return overGrass(now, car); }
  int fill(int cell) {
    if (now == null || !now.gaps.contains(cell)) return -1;
    act(); now.gaps.remove(cell);
    return now.gaps.size();
  }
  int wish(int car, int r) {
    if (!on(car) || !in(r, 0, now.roads.size() - 1) || now.cars.get(car).want == r) return -1;
    act(); int was = now.cars.get(car).want; now.cars.get(car).want = r;
    return was;
  }
  int undo() { if (undos.isEmpty()) return -1; now = undos.removeLast(); return undos.size(); }
  int ahead(int car, int n, int what) {
    if (now == null || !in(n, 0, 100) || !in(what, 0, 2) || (what < 2 && !in(car, 0, 5))) return -2;
    World w = later(now, force, n);
    if (what == 2) return w.off;
    return what == 0 ? w.cellOf(car) : w.cars.containsKey(car) ? w.cars.get(car).fuel : 0;
  }
  int lets(int car) {
    if (!on(car)) return -1;
    World w = now.copy();
    for (int k = 0; k < 200; k++) { int at = w.step; if ((go(w, force, null) & 1 << car) != 0) return at; }
    return -2;
  }
  int still() {
    if (now == null) return -1;
    World w = now.copy();
    for (int k = 0; k < 200; k++) { int at = w.step; go(w, force, null); if (!w.moved) return at; }
    return -2;
  }
  int leastFuel(int car, int n) {
    if (!on(car) || !in(n, 1, 100)) return -1;
    for (int f = 0; f <= 60; f++) {
      World w = now.copy();
      w.cars.get(car).fuel = f;
      for (int k = 0; k < n; k++) if ((go(w, force, null) & 1 << car) != 0) return f;
    }
    return -2;
  }
  int offIn(World w, int n) { int sum = 0; for (int k = 0; k < n; k++) sum += Integer.bitCount(go(w, force, null)); return sum; }
  int best(int n, int what, int kind) {
    if (now == null || !in(n, 1, 40) || !in(what, 0, 1)) return -2;
    int which = -1, most = offIn(now.copy(), n);
    for (int k = 0; k < 20; k++) {
      World w = now.copy();
      if (kind == 0) { if (!on(k)) continue; overGrass(w, k); }
      if (kind == 1 && !w.gaps.remove(k)) continue;
      if (kind == 2) { if (k >= w.roads.size()) continue; w.closed = k; w.waits.set(k, 0); }
      int off = offIn(w, n);
      if (off > most) { most = off; which = k; }
    }
    return what == 0 ? which : most;
  }
  int bestGrass(int n, int what) { return best(n, what, 0); }
  int bestFill(int n, int what) { return best(n, what, 1); }
  int closed(int n, int what) { return best(n, what, 2); }
  int[] bestRow;
  int rowMost;
  void rows(World w, int[] row, int k, int off) {
    if (k == row.length) { if (off > rowMost) { rowMost = off; bestRow = row.clone(); } return; }
    for (int set = 0; set < 64; set++) {
      World v = w.copy();
      row[k] = set;
      int bits = go(v, force, set);
      rows(v, row, k + 1, off + Integer.bitCount(bits));
    }
  }
  int row(int n, int what) {
    if (now == null || !in(n, 1, 3) || !in(what, 0, 3)) return -1;
    if (what > n) return -2;
    rowMost = -1;
    rows(now, new int[n], 0, 0);
    return what == 0 ? rowMost : bestRow[what - 1];
  }
  boolean noted(World from, int rule) {
    for (int[] note : notes) if (later(from, rule, note[0]).cellOf(note[1]) != note[2]) return false;
    return true;
  }
  int wished(int car, int what) {
    if (begin == null || !in(car, 0, begin.told - 1) || !in(what, 0, 1)) return -1;
    int bits = 0;
    for (int r = 0; r < begin.roads.size(); r++) {
      World w = begin.copy();
      w.cars.get(car).want = r;
      if (noted(w, force)) bits |= 1 << r;
    }
    return what == 0 ? Integer.bitCount(bits) : bits;
  }
  int longest(int n, int what) {
    if (now == null || !in(n, 1, 100) || !in(what, 0, 2)) return -1;
    if (now.roads.isEmpty()) return what == 0 ? 0 : -2;
    int[] best = {-1, 0, 0};
    World w = now.copy();
    for (int k = 0; k < n; k++) {
      int at = w.step;
      go(w, force, null);
      for (int r = 0; r < w.roads.size(); r++) if (w.waits.get(r) > best[0]) best = new int[] {w.waits.get(r), at, r};
    }
    return best[what];
  }
  int gain(int one, int r1, int other, int r2, int n, int car) {
    World w = now.copy();
    w.cars.get(one).want = r1; w.cars.get(other).want = r2;
    for (int k = 1; k <= n; k++) if ((go(w, force, null) & 1 << car) != 0) return 100 - k;
    return 0;
  }
  int rests(int one, int other, int n, int what) {
    if (one == other || !on(one) || !on(other) || !in(n, 1, 20) || !in(what, 0, 2)) return -1;
    int many = 0;
    int[] first = {-2, -2};
    for (int a = 0; a < now.roads.size(); a++) {
      next:
      for (int b = 0; b < now.roads.size(); b++) {
        for (int c = 0; c < now.roads.size(); c++) {
          if (gain(one, c, other, b, n, one) > gain(one, a, other, b, n, one)) continue next;
          if (gain(one, a, other, c, n, other) > gain(one, a, other, b, n, other)) continue next;
        }
        if (many++ == 0) first = new int[] {a, b};
      }
    }
    return what == 0 ? many : first[what - 1];
  }
  static String looks(World w) {
    StringBuilder b = new StringBuilder();
    for (Map.Entry<Integer, Car> e : w.cars.entrySet()) b.append(e.getKey() + ":" + e.getValue().cell + ">" + e.getValue().want + " ");
    return b.toString();
  }
  int ring(int what) {
    if (now == null || !in(what, 0, 1)) return -1;
    List<String> seen = new ArrayList<>();
    for (int k = 0; k <= 60; k++) seen.add(looks(later(now, force, k)));
    for (int k = 0; k < 60; k++)
      for (int j = k + 1; j <= 60; j++) if (seen.get(k).equals(seen.get(j))) return what == 0 ? now.step + k : j - k;
    return -2;
  }
  int litres(int much, int car) {
    if (now == null || !in(much, 0, 9999) || !in(car, 0, 5)) return -1;
    int all = 0;
    for (Car c : now.cars.values()) all += 99 - c.fuel;
    if (all == 0) return 0;
    int[] part = new int[6];
    int left = much;
    List<int[]> lost = new ArrayList<>();
    for (int k : now.cars.keySet()) {
      int w = much * (99 - now.cars.get(k).fuel);
      part[k] = w / all;
      left -= part[k];
      lost.add(new int[] {w % all, k});
    }
    lost.sort((a, b) -> a[0] != b[0] ? b[0] - a[0] : a[1] - b[1]);
    for (int k = 0; k < left; k++) part[lost.get(k)[1]]++;
    return part[car];
  }
  int note(int n, int car, int cell) {
    if (n == -1) { notes.clear(); return 0; }
    if (now == null || !in(n, 0, 60) || !in(car, 0, 5) || !in(cell, -1, now.size - 1) || notes.size() == 10) return -2;
    notes.add(new int[] {n, car, cell});
    return notes.size();
  }
  List<Integer> fitting() {
    List<Integer> fit = new ArrayList<>();
    for (int r = -1; r < rules.size(); r++) if (noted(begin, r)) fit.add(r);
    return fit;
  }
  int ruled(int what) {
    if (now == null || !in(what, 0, 1)) return -3;
    List<Integer> fit = fitting();
    return what == 0 ? fit.size() : fit.isEmpty() ? -2 : fit.get(0);
  }
  int look(int n, int what) {
    if (now == null || !in(n, 0, 60) || !in(what, 0, 1)) return -1;
    List<Integer> fit = fitting();
    if (fit.isEmpty()) return -2;
    int best = -1, least = 99;
    for (int car = 0; car < 6; car++) {
      Map<Integer, Integer> groups = new HashMap<>();
      for (int r : fit) groups.merge(later(begin, r, n).cellOf(car), 1, Integer::sum);
      int most = 0;
      for (int g : groups.values()) most = Math.max(most, g);
      if (most < least) { least = most; best = car; }
    }
    return what == 0 ? best : least;
  }
  int seed(int to) { if (to < 0) return -1; int was = x; x = to; return was; }
  int shows(int m, int n, int p, int what) {
    if (now == null || !in(m, 1, 10) || !in(n, 1, 60) || !in(p, 0, 100) || !in(what, 0, 1)) return -1;
    long y = x;
    int off = 0, waiting = 0;
    for (int k = 0; k < m; k++) {
      World w = now.copy();
      for (int i = 0; i < n; i++) {
        y = (y * 1103515245L + 12345) % 2147483648L;
        if (y / 65536 % 100 < p && !w.roads.isEmpty()) {
          y = (y * 1103515245L + 12345) % 2147483648L;
          int r = (int) (y / 65536 % w.roads.size());
          w.waits.set(r, Math.min(99, w.waits.get(r) + 1));
        }
        off += Integer.bitCount(go(w, force, null));
      }
      waiting += w.waiting();
    }
    return what == 0 ? off : waiting;
  }
  int count(int what) {
    World w = now == null ? new World() : now;
    int bits = 0;
    for (int k : w.cars.keySet()) bits |= 1 << k;
    int[] all = {w.size, w.roads.size(), w.told, rules.size(), force, w.step, bits, w.off, w.gaps.size(),
      w.waiting(), notes.size(), undos.size(), x, tape.length()};
    return in(what, 0, 13) ? all[what] : -1;
  }
  int image(int k) {
    if (!in(k, 0, 3)) return -1;
    images[k] = new Object[] {begin, now == null ? null : now.copy(), force, x, new ArrayList<>(notes)};
    return count(5);
  }
  @SuppressWarnings("unchecked")
  int back(int k) {
    if (!in(k, 0, 3) || images[k] == null) return -1;
    begin = (World) images[k][0];
    now = images[k][1] == null ? null : ((World) images[k][1]).copy();
    force = (Integer) images[k][2];
    x = (Integer) images[k][3];
    notes = new ArrayList<>((List<int[]>) images[k][4]);
    undos.clear();
    return count(5);
  }
}
