import java.math.BigInteger;
import java.util.ArrayList;
import java.util.List;
import java.util.Map;
import java.util.TreeMap;
import java.util.TreeSet;

/**
 * The document said again in the slowest and plainest way, with the Java library, to hold the class against.
 * It shares no code and no shape with the class: ways are maps, odds are big numbers, texts are lists of tokens.
 */
final class Model {
  private static final BigInteger TWELVE = BigInteger.valueOf(12);

  /** A thrower, as of() tells it. */
  private static final class One {
    int kind;
    int cell;
    int near = 2;
    int far = 5;
    int east = 1;
    int odds = 8;
    int choice;
    int ill;
    int thanks;

    One again() {
      One o = new One();
      for (int what = 0; what <= 8; what++) {
        o.put(what, tell(what));
      }
      return o;
    }

    int tell(int what) {
      return new int[] {kind, cell, near, far, east, odds, choice, ill, thanks}[what];
    }

    void put(int what, int v) {
      switch (what) {
        case 0 -> kind = v;
        case 1 -> cell = v;
        case 2 -> near = v;
        case 3 -> far = v;
        case 4 -> east = v;
        case 5 -> odds = v;
        case 6 -> choice = v;
        case 7 -> ill = v;
        default -> thanks = v;
      }
    }

    int reach(int far, int clock) {
      return reachAs(kind, far, clock);
    }

    private int reachAs(int k, int isFar, int clock) {
      return switch (k) {
        case 1 -> reachAs(0, isFar, clock) + 1;
        case 3 -> reachAs(1, isFar, clock) + 2 * isFar;
        case 5 -> reachAs(0, isFar, clock) - (night(clock) ? 1 : 0);
        case 6 -> reachAs(0, isFar, clock) / 2;
        default -> isFar == 1 ? far : near;
      };
    }

    int sure(int isFar, int clock) {
      return sureAs(kind, isFar, clock);
    }

    private int sureAs(int k, int isFar, int clock) {
      return switch (k) {
        case 2 -> Math.max(0, sureAs(0, isFar, clock) - 3);
        case 4 -> night(clock) ? 0 : sureAs(2, isFar, clock);
        case 6 -> 12;
        default -> Math.max(0, odds - 2 * isFar);
      };
    }

    int falls(int isFar, int clock, boolean isShort) {
      int r = reach(isFar, clock);
      if (isShort && r > 0) {
        r--;
      }
      int to = east == 1 ? cell + r : cell - r;
      return to < 0 ? 0 : to > 23 ? 23 : to;
    }
  }

  private static boolean night(int clock) {
    return clock < 6 || clock > 17;
  }

  private int[] ground = new int[24];
  private int home = 23;
  private int fetch = 2;
  private int hour = 0;
  private int z = 1;
  private List<One> ones = new ArrayList<>();
  private List<Integer> post = new ArrayList<>();
  private int[] spots = {-1, -1, -1, -1, -1, -1, -1, -1, -1, -1};
  private final List<Integer> tape = new ArrayList<>();
  private final int[] bits = new int[4];
  private final int[][] sheets = new int[4][];
  private final int[] findings = new int[7];
  private Model kept = null;

  private static Model likeness(Model m) {
    Model n = new Model();
    n.takeOver(m);
    return n;
  }

  private void takeOver(Model m) {
    ground = m.ground.clone();
    home = m.home;
    fetch = m.fetch;
    hour = m.hour;
    z = m.z;
    ones = new ArrayList<>();
    for (One o : m.ones) {
      ones.add(o.again());
    }
    post = new ArrayList<>(m.post);
    spots = m.spots.clone();
  }

  private int f(int which) {
    findings[which]++;
    return -1000001 - which;
  }

  private static boolean out(int v, int least, int most) {
    return v < least || v > most;
  }

  private static boolean noCell(int v) {
    return out(v, 0, 23);
  }

  private boolean noOne(int t) {
    return out(t, 0, ones.size() - 1);
  }

  private One on(int cell) {
    for (One o : ones) {
      if (o.cell == cell) {
        return o;
      }
    }
    return null;
  }

  // ---- the land, throwers

  int stuff(int cell, int v) {
    if (noCell(cell) || out(v, 0, 3)) {
      return f(0);
    }
    int was = ground[cell];
    ground[cell] = v;
    return was;
  }

  int rule(int what, int v) {
    if (out(what, 0, 1) || out(v, 0, what == 0 ? 23 : 9)) {
      return f(0);
    }
    int was = what == 0 ? home : fetch;
    if (what == 0) {
      home = v;
    } else {
      fetch = v;
    }
    return was;
  }

  int thrower(int kind, int cell) {
    if (out(kind, 0, 6) || noCell(cell)) {
      return f(0);
    }
    if (on(cell) != null) {
      return f(4);
    }
    if (ones.size() == 10) {
      return f(1);
    }
    return place(kind, cell);
  }

  private int place(int kind, int cell) {
    One o = new One();
    o.kind = kind;
    o.cell = cell;
    ones.add(o);
    return ones.size() - 1;
  }

  int of(int t, int what) {
    return noOne(t) || out(what, 0, 8) ? f(0) : ones.get(t).tell(what);
  }

  int change(int t, int what, int v) {
    if (noOne(t)) {
      return f(0);
    }
    boolean fits = switch (what) {
      case 0 -> !out(v, 0, 6);
      case 2 -> !out(v, 1, 9);
      case 3 -> !out(v, 1, 12);
      case 4, 6, 7 -> !out(v, 0, 1);
      case 5 -> !out(v, 0, 12);
      default -> false;
    };
    if (!fits) {
      return f(0);
    }
    int was = ones.get(t).tell(what);
    ones.get(t).put(what, v);
    return was;
  }

  int walk(int t, int cell) {
    if (noOne(t) || noCell(cell)) {
      return f(0);
    }
    One o = ones.get(t);
    if (on(cell) != null && on(cell) != o) {
      return f(4);
    }
    int was = o.cell;
    o.cell = cell;
    return was;
  }

  int told(int t, int what, int far, int clock) {
    if (noOne(t) || out(what, 0, 1) || out(far, 0, 1) || noCell(clock)) {
      return f(0);
    }
    return what == 0 ? ones.get(t).reach(far, clock) : ones.get(t).sure(far, clock);
  }

  int falls(int t, int far, int clock, boolean isShort) {
    return noOne(t) || out(far, 0, 1) || noCell(clock) ? f(0) : ones.get(t).falls(far, clock, isShort);
  }

  private boolean stays(int cell) {
    return cell == home || ground[cell] == 1;
  }

  private One hand(int cell) {
    if (stays(cell)) {
      return null;
    }
    for (int away = 0; away <= fetch; away++) {
      for (int c : new int[] {cell - away, cell + away}) {
        One o = on(c);
        if (o != null && o.ill == 0) {
          return o;
        }
      }
    }
    return null;
  }

  int next(int cell) {
    if (noCell(cell)) {
      return f(0);
    }
    One o = hand(cell);
    return o == null ? f(3) : ones.indexOf(o);
  }

  // ---- letters

  int letter(int cell) {
    if (noCell(cell)) {
      return f(0);
    }
    if (post.size() == 12) {
      return f(1);
    }
    post.add(cell);
    return post.size() - 1;
  }

  int where(int l) {
    return out(l, 0, post.size() - 1) ? f(0) : post.get(l);
  }

  int take(int l) {
    return out(l, 0, post.size() - 1) ? f(0) : post.remove(l);
  }

  private int draw() {
    z = (int) (z * 1103515245L + 12345L);
    return z >>> 8;
  }

  private int go(int cell) {
    One by = hand(cell);
    int clock = hour % 24;
    if (by != null && by.cell == cell) {
      by.thanks++;
      int sure = by.sure(by.choice, clock);
      boolean isShort = sure == 0 || sure < 12 && draw() % 12 >= sure;
      return by.falls(by.choice, clock, isShort);
    }
    if (by != null) {
      return ground[cell] == 2 && draw() % 12 >= 6 ? cell : by.cell;
    }
    if (stays(cell) || ground[cell] != 3) {
      return cell;
    }
    return cell + Integer.signum(home - cell);
  }

  int hours(int n) {
    if (out(n, 1, 48)) {
      return f(0);
    }
    if (hour + n > 9999) {
      return f(4);
    }
    int there = letterSum(0);
    for (int h = 0; h < n; h++) {
      for (int l = 0; l < post.size(); l++) {
        post.set(l, go(post.get(l)));
      }
      hour++;
    }
    return letterSum(0) - there;
  }

  private int letterSum(int what) {
    int sum = 0;
    for (int cell : post) {
      int sort = cell == home ? 0 : ground[cell] == 1 ? 1 : 2;
      sum += sort == what ? 1 : 0;
    }
    return sum;
  }

  int letters(int what) {
    return out(what, 0, 2) ? f(0) : letterSum(what);
  }

  // ---- odds, from now on

  /** From a cell, h hours from now: cells with their twelfths, none of 0; far -1: by CHOICE. */
  private Map<Integer, Integer> ways(int cell, int h, int far) {
    int clock = (hour + h) % 24;
    Map<Integer, Integer> ways = new TreeMap<>();
    One by = hand(cell);
    if (by != null && by.cell == cell) {
      int way = far < 0 ? by.choice : far;
      ways.merge(by.falls(way, clock, false), by.sure(way, clock), Integer::sum);
      ways.merge(by.falls(way, clock, true), 12 - by.sure(way, clock), Integer::sum);
    } else if (by != null) {
      ways.put(by.cell, ground[cell] == 2 ? 6 : 12);
      ways.put(cell, ground[cell] == 2 ? 6 : 0);
    } else if (!stays(cell) && ground[cell] == 3) {
      ways.put(home > cell ? cell + 1 : cell - 1, 12);
    } else {
      ways.put(cell, 12);
    }
    ways.values().removeIf(parts -> parts == 0);
    return ways;
  }

  private Map<Integer, BigInteger> oddsOf(int cell, int n) {
    Map<Integer, BigInteger> now = new TreeMap<>();
    now.put(cell, BigInteger.ONE);
    for (int h = 0; h < n; h++) {
      Map<Integer, BigInteger> then = new TreeMap<>();
      for (Map.Entry<Integer, BigInteger> e : now.entrySet()) {
        for (Map.Entry<Integer, Integer> w : ways(e.getKey(), h, -1).entrySet()) {
          then.merge(w.getKey(), e.getValue().multiply(BigInteger.valueOf(w.getValue())), BigInteger::add);
        }
      }
      now = then;
    }
    return now;
  }

  private long partsOn(int cell, int n, int then) {
    return oddsOf(cell, n).getOrDefault(then, BigInteger.ZERO).longValueExact();
  }

  long odds(int cell, int n, int then) {
    return noCell(cell) || out(n, 0, 15) || noCell(then) ? f(0) : partsOn(cell, n, then);
  }

  long lost(int cell, int n) {
    if (noCell(cell) || out(n, 0, 15)) {
      return f(0);
    }
    long sum = 0;
    for (Map.Entry<Integer, BigInteger> e : oddsOf(cell, n).entrySet()) {
      if (e.getKey() != home && ground[e.getKey()] == 1) {
        sum += e.getValue().longValueExact();
      }
    }
    return sum;
  }

  int likeliest(int cell, int n) {
    if (noCell(cell) || out(n, 0, 15)) {
      return f(0);
    }
    int likely = -1;
    BigInteger most = BigInteger.ZERO;
    for (Map.Entry<Integer, BigInteger> e : oddsOf(cell, n).entrySet()) {
      if (e.getValue().compareTo(most) > 0) {
        likely = e.getKey();
        most = e.getValue();
      }
    }
    return likely;
  }

  private TreeSet<Integer> step(TreeSet<Integer> cells, int h, boolean any) {
    TreeSet<Integer> then = new TreeSet<>();
    for (int c : cells) {
      if (any) {
        then.addAll(ways(c, h, 0).keySet());
        then.addAll(ways(c, h, 1).keySet());
      } else {
        then.addAll(ways(c, h, -1).keySet());
      }
    }
    return then;
  }

  private static TreeSet<Integer> just(int cell) {
    TreeSet<Integer> one = new TreeSet<>();
    one.add(cell);
    return one;
  }

  private static int bitsOf(TreeSet<Integer> cells) {
    int set = 0;
    for (int c : cells) {
      set += 1 << c;
    }
    return set;
  }

  private int soonest(int cell, boolean any) {
    if (noCell(cell)) {
      return f(0);
    }
    TreeSet<Integer> cells = just(cell);
    int h = 0;
    while (h <= 60 && !cells.contains(home)) {
      cells = step(cells, h, any);
      h++;
    }
    return h > 60 ? f(3) : h;
  }

  int fewest(int cell) {
    return soonest(cell, false);
  }

  int free(int cell) {
    return soonest(cell, true);
  }

  private TreeSet<Integer> reachable(int cell, int n) {
    TreeSet<Integer> cells = just(cell);
    for (int h = 0; h < n; h++) {
      cells = step(cells, h, false);
    }
    return cells;
  }

  int may(int cell, int n) {
    return noCell(cell) || out(n, 0, 60) ? f(0) : bitsOf(reachable(cell, n));
  }

  // ---- the best throws

  private BigInteger valueOf(int cell, int h, int end, int far, Map<Integer, BigInteger> known) {
    BigInteger sum = BigInteger.ZERO;
    for (Map.Entry<Integer, Integer> w : ways(cell, h, far).entrySet()) {
      sum = sum.add(BigInteger.valueOf(w.getValue()).multiply(bestOf(w.getKey(), h + 1, end, known)));
    }
    return sum;
  }

  private BigInteger bestOf(int cell, int h, int end, Map<Integer, BigInteger> known) {
    if (h == end) {
      return cell == home ? BigInteger.ONE : BigInteger.ZERO;
    }
    BigInteger already = known.get(h * 100 + cell);
    if (already != null) {
      return already;
    }
    BigInteger most = valueOf(cell, h, end, 0, known).max(valueOf(cell, h, end, 1, known));
    known.put(h * 100 + cell, most);
    return most;
  }

  long best(int cell, int n) {
    return noCell(cell) || out(n, 0, 15) ? f(0) : bestOf(cell, 0, n, new TreeMap<>()).longValueExact();
  }

  int choose(int t, int n) {
    if (noOne(t) || out(n, 1, 15)) {
      return f(0);
    }
    One o = ones.get(t);
    if (o.ill == 1 || stays(o.cell)) {
      return f(4);
    }
    Map<Integer, BigInteger> known = new TreeMap<>();
    BigInteger near = valueOf(o.cell, 0, n, 0, known);
    return near.equals(bestOf(o.cell, 0, n, known)) ? 0 : 1;
  }

  int plan(int cell, int n) {
    if (noCell(cell) || out(n, 1, 8)) {
      return f(0);
    }
    if (ones.size() > 8) {
      return f(6);
    }
    Model m = likeness(this);
    long most = -1;
    int first = 0;
    for (int choices = 0; choices < Math.pow(2, ones.size()); choices++) {
      m.set(choices);
      long parts = m.partsOn(cell, n, home);
      if (parts > most) {
        most = parts;
        first = choices;
      }
    }
    return first;
  }

  int set(int choices) {
    if (choices < 0 || choices >= Math.pow(2, ones.size())) {
      return f(0);
    }
    int changed = 0;
    int rest = choices;
    for (One o : ones) {
      changed += o.choice == rest % 2 ? 0 : 1;
      o.choice = rest % 2;
      rest /= 2;
    }
    return changed;
  }

  int missed(int cell, int n) {
    if (noCell(cell) || out(n, 1, 10)) {
      return f(0);
    }
    int missed = -1;
    long fewest = Long.MAX_VALUE;
    for (int t = 0; t < ones.size(); t++) {
      Model m = likeness(this);
      if (m.change(t, 7, 1) == 0 && m.partsOn(cell, n, home) < fewest) {
        fewest = m.partsOn(cell, n, home);
        missed = t;
      }
    }
    return missed < 0 ? f(3) : missed;
  }

  int stand(int cell, int n) {
    if (noCell(cell) || out(n, 1, 10)) {
      return f(0);
    }
    if (ones.size() == 10) {
      return f(1);
    }
    int stand = -1;
    long most = -1;
    for (int c = 0; c < 24; c++) {
      Model m = likeness(this);
      if (m.thrower(0, c) >= 0 && m.partsOn(cell, n, home) > most) {
        most = m.partsOn(cell, n, home);
        stand = c;
      }
    }
    return stand;
  }

  int fetchFor(int cell, int n) {
    if (noCell(cell) || out(n, 1, 10)) {
      return f(0);
    }
    Model m = likeness(this);
    int least = 9;
    m.fetch = 9;
    long most = m.partsOn(cell, n, home);
    for (int v = 8; v >= 0; v--) {
      m.fetch = v;
      if (m.partsOn(cell, n, home) >= most) {
        most = m.partsOn(cell, n, home);
        least = v;
      }
    }
    return least;
  }

  long copies(int cell, int n) {
    if (noCell(cell) || out(n, 0, 7)) {
      return f(0);
    }
    BigInteger one = BigInteger.valueOf(partsOn(cell, n, home));
    BigInteger all = TWELVE.pow(n);
    BigInteger other = all.subtract(one);
    return one.multiply(one).add(one.multiply(other)).add(other.multiply(one)).longValueExact();
  }

  // ---- stones found

  int whose(int cell, int clock) {
    if (noCell(cell) || noCell(clock)) {
      return f(0);
    }
    TreeSet<Integer> those = new TreeSet<>();
    for (One o : ones) {
      for (int far = 0; far <= 1; far++) {
        int sure = o.sure(far, clock);
        if (sure != 0 && o.falls(far, clock, false) == cell) {
          those.add(ones.indexOf(o));
        }
        if (sure != 12 && o.falls(far, clock, true) == cell) {
          those.add(ones.indexOf(o));
        }
      }
    }
    return bitsOf(those);
  }

  int from(int cell, int n) {
    if (noCell(cell) || out(n, 0, 20)) {
      return f(0);
    }
    TreeSet<Integer> those = new TreeSet<>();
    for (int c = 0; c < 24; c++) {
      if (reachable(c, n).contains(cell)) {
        those.add(c);
      }
    }
    return bitsOf(those);
  }

  int thief(int cell, int n) {
    if (noCell(cell) || out(n, 1, 20)) {
      return f(0);
    }
    TreeSet<Integer> those = new TreeSet<>();
    for (int t = 0; t < 24; t++) {
      if (t == home || t == cell) {
        continue;
      }
      TreeSet<Integer> cells = just(cell);
      boolean came = cells.contains(home);
      for (int h = 0; h < n; h++) {
        cells = step(cells, h, false);
        cells.remove(t);
        came |= cells.contains(home);
      }
      if (!came) {
        those.add(t);
      }
    }
    return bitsOf(those);
  }

  int gifts() {
    if (ones.isEmpty()) {
      return 0;
    }
    List<Integer> thanks = new ArrayList<>();
    int sum = 0;
    for (One o : ones) {
      thanks.add(o.thanks);
      sum += o.thanks;
    }
    int mean = sum / ones.size();
    int gifts = 0;
    while (true) {
      int most = thanks.stream().max(Integer::compare).get();
      int least = thanks.stream().min(Integer::compare).get();
      if (most <= mean || least >= mean) {
        return gifts;
      }
      int gift = Math.min(most - mean, mean - least);
      thanks.set(thanks.indexOf(most), most - gift);
      thanks.set(thanks.indexOf(least), least + gift);
      gifts++;
    }
  }

  int seed(int v) {
    int was = z;
    z = v;
    return was;
  }

  // ---- texts

  int feed(int bytes, int n) {
    if (out(n, 1, 4)) {
      return f(0);
    }
    if (tape.size() + n > 120) {
      return f(1);
    }
    for (int i = 4 - n; i < 4; i++) {
      tape.add(bytes >>> 24 - 8 * i & 0xff);
    }
    return tape.size();
  }

  int wipe() {
    int had = tape.size();
    tape.clear();
    return had;
  }

  int text() {
    List<ModelText.Token> tokens = ModelText.tokens(tape);
    int length = wipe();
    Model m = likeness(this);
    ModelText reader = new ModelText(tokens, length);
    int answer = reader.read(m);
    if (answer >= 0) {
      takeOver(m);
    }
    return answer;
  }

  int throwersNow() {
    return ones.size();
  }

  int lettersNow() {
    return post.size();
  }

  boolean isFreeCell(int cell) {
    return on(cell) == null;
  }

  // ---- spots, sheets

  int hold(int spot, int t) {
    if (out(spot, 0, 9) || t != -1 && noOne(t)) {
      return f(0);
    }
    spots[spot] = t;
    return 1;
  }

  int as(int spot, int kind) {
    if (out(spot, 0, 9) || out(kind, 0, 6)) {
      return f(0);
    }
    if (spots[spot] < 0) {
      return f(5);
    }
    String[] lines = {"0", "01", "02", "013", "024", "05", "06"};
    return lines[ones.get(spots[spot]).kind].indexOf((char) ('0' + kind)) >= 0 ? spots[spot] : f(2);
  }

  int sheet(int s, int width, int n) {
    if (out(s, 0, 3) || width != 0 && width != 8 && width != 16 && width != 32) {
      return f(0);
    }
    if (n < 0) {
      return f(6);
    }
    if (n > 40) {
      return f(0);
    }
    bits[s] = width;
    sheets[s] = width == 0 ? null : new int[n];
    return width == 0 ? 0 : n;
  }

  int write(int s, int i, int v) {
    if (out(s, 0, 3)) {
      return f(0);
    }
    if (sheets[s] == null) {
      return f(5);
    }
    if (out(i, 0, sheets[s].length - 1)) {
      return f(0);
    }
    sheets[s][i] = bits[s] == 8 ? (byte) v : bits[s] == 16 ? (short) v : v;
    return 1;
  }

  int copy(int s, int from, int t, int to, int n) {
    if (out(s, 0, 3) || out(t, 0, 3)) {
      return f(0);
    }
    if (sheets[s] == null || sheets[t] == null) {
      return f(5);
    }
    if (bits[s] != bits[t]) {
      return f(2);
    }
    if (from < 0 || to < 0 || n < 0 || from > sheets[s].length - (long) n || to > sheets[t].length - (long) n) {
      return f(0);
    }
    int[] were = sheets[s].clone();
    for (int i = 0; i < n; i++) {
      sheets[t][to + i] = were[from + i];
    }
    return n;
  }

  int load(int s) {
    if (out(s, 0, 3)) {
      return f(0);
    }
    if (sheets[s] == null) {
      return f(5);
    }
    int came = 0;
    for (int v : sheets[s]) {
      if (out(v, 0, 3) || came == 24) {
        break;
      }
      ground[came++] = v;
    }
    return came;
  }

  int judge(int s, int l) {
    if (out(s, 0, 3)) {
      return f(0);
    }
    if (sheets[s] == null) {
      return f(5);
    }
    if (out(l, 0, post.size() - 1)) {
      return f(0);
    }
    for (int i = 0; i < sheets[s].length; i++) {
      int v = sheets[s][i];
      boolean right = i == 0 ? v == post.get(l) : ways(sheets[s][i - 1], i - 1, -1).containsKey(v);
      if (!right) {
        return 1 + i;
      }
    }
    return 0;
  }

  // ---- images

  int image() {
    kept = likeness(this);
    return 1;
  }

  int undo() {
    if (kept == null) {
      return f(3);
    }
    takeOver(kept);
    return hour;
  }

  int tear() {
    int was = kept == null ? 0 : 1;
    kept = null;
    return was;
  }

  int count(int what) {
    int thanks = 0;
    int ill = 0;
    int held = 0;
    for (One o : ones) {
      thanks += o.thanks;
      ill += o.ill;
    }
    for (int s : spots) {
      held += s >= 0 ? 1 : 0;
    }
    return out(what, 0, 7) ? f(0)
        : new int[] {hour, ones.size(), post.size(), thanks, ill, tape.size(), z, held}[what];
  }

  int status(int which) {
    if (out(which, -1, 6)) {
      return f(0);
    }
    int sum = 0;
    for (int i = 0; i < 7; i++) {
      sum += which == -1 || which == i ? findings[i] : 0;
    }
    return sum;
  }
}
