import java.util.Arrays;

/** Post by thrown stones; the numbered promises of the document say what each call answers. */
public final class StonePost {
  private static final int BEYOND = -1000001;
  private static final int FULL = -1000002;
  private static final int OTHER_KIND = -1000003;
  private static final int NONE = -1000004;
  private static final int STATE = -1000005;
  private static final int MISSING = -1000006;
  private static final int SIZE = -1000007;
  private static final int FINDINGS = 7;

  private static final int CELLS = 24;
  private static final int DAY = 24;
  private static final int THROWERS_MOST = 10;
  private static final int PLANNED_MOST = 8;
  private static final int LETTERS_MOST = 12;
  private static final int SPOTS = 10;
  private static final int SHEETS = 4;
  private static final int SHEET_MOST = 40;
  private static final int TAPE_MOST = 120;
  private static final int HOUR_MOST = 9999;
  private static final int FETCH_MOST = 9;
  private static final int STUFF_MOST = 3;
  private static final int KIND_MOST = 6;
  private static final int ODDS_HOURS = 15;
  private static final int REACH_HOURS = 60;
  private static final int TRIAL_HOURS = 10;
  private static final int TRACE_HOURS = 20;
  private static final int TWELVE = 12;
  private static final int NOBODY = -1;

  private final Land land = new Land();
  private final Land kept = new Land();
  /** What texts are read into, and questions of "what if" are asked of, so that the land stays as it is. */
  private final Land trial = new Land();
  private final Chart chart = new Chart();
  private final Tape tape = new Tape();
  private final Sheet[] sheets = new Sheet[SHEETS];
  private final int[] found = new int[FINDINGS];
  private boolean isKept;

  public StonePost() {
    for (int s = 0; s < SHEETS; s++) {
      sheets[s] = new Sheet();
    }
  }

  // ---- the land, throwers

  public int stuff(int cell, int v) {
    if (!isCell(cell) || !isWithin(v, 0, STUFF_MOST)) {
      return finding(BEYOND);
    }
    int was = land.stuffs[cell];
    land.stuffs[cell] = v;
    return was;
  }

  public int rule(int what, int v) {
    if (what == 0 && isCell(v)) {
      int was = land.home;
      land.home = v;
      return was;
    }
    if (what == 1 && isWithin(v, 0, FETCH_MOST)) {
      int was = land.fetch;
      land.fetch = v;
      return was;
    }
    return finding(BEYOND);
  }

  public int thrower(int kind, int cell) {
    if (!isKind(kind) || !isCell(cell)) {
      return finding(BEYOND);
    }
    if (land.standingOn(cell) != NOBODY) {
      return finding(STATE);
    }
    int number = land.addThrower(kind, cell);
    return number == NOBODY ? finding(FULL) : number;
  }

  public int of(int thrower, int what) {
    if (!isThrower(thrower) || !isWithin(what, 0, Thrower.FACTS - 1)) {
      return finding(BEYOND);
    }
    return land.throwers[thrower].facts[what];
  }

  public int change(int thrower, int what, int v) {
    if (!isThrower(thrower) || !Thrower.canBecome(what, v)) {
      return finding(BEYOND);
    }
    int[] facts = land.throwers[thrower].facts;
    int was = facts[what];
    facts[what] = v;
    return was;
  }

  public int walk(int thrower, int cell) {
    if (!isThrower(thrower) || !isCell(cell)) {
      return finding(BEYOND);
    }
    int there = land.standingOn(cell);
    if (there != NOBODY && there != thrower) {
      return finding(STATE);
    }
    int[] facts = land.throwers[thrower].facts;
    int was = facts[Thrower.CELL];
    facts[Thrower.CELL] = cell;
    return was;
  }

  public int told(int thrower, int what, int far, int clock) {
    if (!isThrower(thrower) || !isWithin(what, 0, 1) || !isThrow(far, clock)) {
      return finding(BEYOND);
    }
    Thrower one = land.throwers[thrower];
    return what == 0 ? one.reach(far, isNight(clock)) : one.sure(far, isNight(clock));
  }

  public int falls(int thrower, int far, int clock, boolean isShort) {
    if (!isThrower(thrower) || !isThrow(far, clock)) {
      return finding(BEYOND);
    }
    Thrower one = land.throwers[thrower];
    return isShort ? one.shortCell(far, isNight(clock)) : one.toldCell(far, isNight(clock));
  }

  public int next(int cell) {
    if (!isCell(cell)) {
      return finding(BEYOND);
    }
    int hand = land.handFor(cell);
    return hand == NOBODY ? finding(NONE) : hand;
  }

  // ---- letters

  public int letter(int cell) {
    if (!isCell(cell)) {
      return finding(BEYOND);
    }
    int number = land.addLetter(cell);
    return number == NOBODY ? finding(FULL) : number;
  }

  public int where(int letter) {
    return isLetter(letter) ? land.letterCells[letter] : finding(BEYOND);
  }

  public int take(int letter) {
    if (!isLetter(letter)) {
      return finding(BEYOND);
    }
    int cell = land.letterCells[letter];
    land.letterCount--;
    for (int i = letter; i < land.letterCount; i++) {
      land.letterCells[i] = land.letterCells[i + 1];
    }
    return cell;
  }

  public int hours(int n) {
    if (!isWithin(n, 1, 48)) {
      return finding(BEYOND);
    }
    if (land.hour + n > HOUR_MOST) {
      return finding(STATE);
    }
    chart.lay(land);
    int came = 0;
    for (int h = 0; h < n; h++) {
      came += passHour(h);
      land.hour++;
    }
    return came;
  }

  public int letters(int what) {
    if (!isWithin(what, 0, 2)) {
      return finding(BEYOND);
    }
    int those = 0;
    for (int i = 0; i < land.letterCount; i++) {
      if (land.placeSort(land.letterCells[i]) == what) {
        those++;
      }
    }
    return those;
  }

  // ---- odds, from now on

  public long odds(int cell, int n, int then) {
    if (!isCell(cell) || !isWithin(n, 0, ODDS_HOURS) || !isCell(then)) {
      return finding(BEYOND);
    }
    chart.lay(land);
    chart.spread(cell, n, chart.choices);
    return chart.parts[then];
  }

  public long lost(int cell, int n) {
    if (!isCell(cell) || !isWithin(n, 0, ODDS_HOURS)) {
      return finding(BEYOND);
    }
    chart.lay(land);
    chart.spread(cell, n, chart.choices);
    long inBrooks = 0;
    for (int c = 0; c < CELLS; c++) {
      if (land.placeSort(c) == Land.DROWNED) {
        inBrooks += chart.parts[c];
      }
    }
    return inBrooks;
  }

  public int likeliest(int cell, int n) {
    if (!isCell(cell) || !isWithin(n, 0, ODDS_HOURS)) {
      return finding(BEYOND);
    }
    chart.lay(land);
    chart.spread(cell, n, chart.choices);
    int likely = 0;
    for (int c = 1; c < CELLS; c++) {
      if (chart.parts[c] > chart.parts[likely]) {
        likely = c;
      }
    }
    return likely;
  }

  public int fewest(int cell) {
    return hoursHome(cell, false);
  }

  public int free(int cell) {
    return hoursHome(cell, true);
  }

  public int may(int cell, int n) {
    if (!isCell(cell) || !isWithin(n, 0, REACH_HOURS)) {
      return finding(BEYOND);
    }
    chart.lay(land);
    int cells = 1 << cell;
    for (int h = 0; h < n; h++) {
      cells = chart.after(cells, h);
    }
    return cells;
  }

  // ---- the best throws

  public long best(int cell, int n) {
    if (!isCell(cell) || !isWithin(n, 0, ODDS_HOURS)) {
      return finding(BEYOND);
    }
    chart.lay(land);
    chart.weigh(0, n);
    return chart.parts[cell];
  }

  public int choose(int thrower, int n) {
    if (!isThrower(thrower) || !isWithin(n, 1, ODDS_HOURS)) {
      return finding(BEYOND);
    }
    Thrower one = land.throwers[thrower];
    int cell = one.facts[Thrower.CELL];
    if (one.isIll() || land.staysOn(cell)) {
      return finding(STATE);
    }
    chart.lay(land);
    chart.weigh(1, n);
    return chart.worth(chart.row(cell, 0, 1)) > chart.worth(chart.row(cell, 0, 0)) ? 1 : 0;
  }

  public int plan(int cell, int n) {
    if (!isCell(cell) || !isWithin(n, 1, 8)) {
      return finding(BEYOND);
    }
    if (land.throwerCount > PLANNED_MOST) {
      return finding(SIZE);
    }
    chart.lay(land);
    int first = 0;
    long most = -1;
    for (int choices = 0; choices < 1 << land.throwerCount; choices++) {
      chart.spread(cell, n, choices);
      if (chart.parts[land.home] > most) {
        most = chart.parts[land.home];
        first = choices;
      }
    }
    return first;
  }

  public int set(int choices) {
    if (!isWithin(choices, 0, (1 << land.throwerCount) - 1)) {
      return finding(BEYOND);
    }
    int changed = Integer.bitCount(choices ^ land.choiceSet());
    for (int t = 0; t < land.throwerCount; t++) {
      land.throwers[t].facts[Thrower.CHOICE] = choices >> t & 1;
    }
    return changed;
  }

  public int missed(int cell, int n) {
    if (!isCell(cell) || !isWithin(n, 1, TRIAL_HOURS)) {
      return finding(BEYOND);
    }
    trial.become(land);
    int missed = NOBODY;
    long fewest = 0;
    for (int t = 0; t < trial.throwerCount; t++) {
      if (!trial.throwers[t].isIll()) {
        trial.throwers[t].facts[Thrower.ILL] = 1;
        long left = homeParts(trial, cell, n);
        trial.throwers[t].facts[Thrower.ILL] = 0;
        if (missed == NOBODY || left < fewest) {
          fewest = left;
          missed = t;
        }
      }
    }
    return missed == NOBODY ? finding(NONE) : missed;
  }

  public int stand(int cell, int n) {
    if (!isCell(cell) || !isWithin(n, 1, TRIAL_HOURS)) {
      return finding(BEYOND);
    }
    trial.become(land);
    int number = trial.addThrower(0, 0);
    if (number == NOBODY) {
      return finding(FULL);
    }
    int[] newcomer = trial.throwers[number].facts;
    int stand = 0;
    long most = -1;
    for (int c = 0; c < CELLS; c++) {
      if (land.standingOn(c) == NOBODY) {
        newcomer[Thrower.CELL] = c;
        long home = homeParts(trial, cell, n);
        if (home > most) {
          most = home;
          stand = c;
        }
      }
    }
    return stand;
  }

  public int fetchFor(int cell, int n) {
    if (!isCell(cell) || !isWithin(n, 1, TRIAL_HOURS)) {
      return finding(BEYOND);
    }
    trial.become(land);
    int least = 0;
    long most = -1;
    for (int f = 0; f <= FETCH_MOST; f++) {
      trial.fetch = f;
      long home = homeParts(trial, cell, n);
      if (home > most) {
        most = home;
        least = f;
      }
    }
    return least;
  }

  public long copies(int cell, int n) {
    if (!isCell(cell) || !isWithin(n, 0, 7)) {
      return finding(BEYOND);
    }
    long all = 1;
    for (int h = 0; h < n; h++) {
      all *= TWELVE;
    }
    long away = all - homeParts(land, cell, n);
    return all * all - away * away;
  }

  // ---- stones found

  public int whose(int cell, int clock) {
    if (!isCell(cell) || !isWithin(clock, 0, DAY - 1)) {
      return finding(BEYOND);
    }
    int those = 0;
    for (int t = 0; t < land.throwerCount; t++) {
      if (land.throwers[t].canHit(cell, isNight(clock))) {
        those |= 1 << t;
      }
    }
    return those;
  }

  public int from(int cell, int n) {
    if (!isCell(cell) || !isWithin(n, 0, TRACE_HOURS)) {
      return finding(BEYOND);
    }
    chart.lay(land);
    int cells = 1 << cell;
    for (int h = n - 1; h >= 0; h--) {
      cells = chart.ahead(cells, h);
    }
    return cells;
  }

  public int thief(int cell, int n) {
    if (!isCell(cell) || !isWithin(n, 1, TRACE_HOURS)) {
      return finding(BEYOND);
    }
    chart.lay(land);
    int those = 0;
    for (int c = 0; c < CELLS; c++) {
      if (c != land.home && c != cell && isCutOff(cell, n, c)) {
        those |= 1 << c;
      }
    }
    return those;
  }

  public int gifts() {
    if (land.throwerCount <= 0) {
      return 0;
    }
    int mean = land.thanksOfAll() / land.throwerCount;
    trial.become(land);
    int given = 0;
    // Each gift brings one more THROWER to the mean for good, so there are fewer gifts than THROWERS.
    for (int g = 0; g < THROWERS_MOST; g++) {
      int[] richest = trial.withMostThanks().facts;
      int[] poorest = trial.withLeastThanks().facts;
      int over = richest[Thrower.THANKS] - mean;
      int under = mean - poorest[Thrower.THANKS];
      if (over <= 0 || under <= 0) {
        break;
      }
      int gift = Math.min(over, under);
      richest[Thrower.THANKS] -= gift;
      poorest[Thrower.THANKS] += gift;
      given++;
    }
    return given;
  }

  public int seed(int v) {
    int was = land.z;
    land.z = v;
    return was;
  }

  // ---- texts

  public int feed(int bytes, int n) {
    if (!isWithin(n, 1, 4)) {
      return finding(BEYOND);
    }
    if (tape.length + n > TAPE_MOST) {
      return finding(FULL);
    }
    for (int i = n - 1; i >= 0; i--) {
      tape.bytes[tape.length] = bytes >> 8 * i & 255;
      tape.length++;
    }
    return tape.length;
  }

  public int wipe() {
    int had = tape.length;
    tape.length = 0;
    return had;
  }

  public int text() {
    trial.become(land);
    int answer = TextReader.readItems(tape, trial);
    if (answer >= 0) {
      land.become(trial);
    }
    tape.length = 0;
    return answer;
  }

  // ---- spots, sheets

  public int hold(int spot, int thrower) {
    if (!isWithin(spot, 0, SPOTS - 1) || thrower != NOBODY && !isThrower(thrower)) {
      return finding(BEYOND);
    }
    land.spots[spot] = thrower;
    return 1;
  }

  public int as(int spot, int kind) {
    if (!isWithin(spot, 0, SPOTS - 1) || !isKind(kind)) {
      return finding(BEYOND);
    }
    int held = land.spots[spot];
    if (!isThrower(held)) {
      return finding(MISSING);
    }
    return land.throwers[held].isA(kind) ? held : finding(OTHER_KIND);
  }

  public int sheet(int s, int bits, int n) {
    if (!isSheet(s) || !Sheet.isWidth(bits)) {
      return finding(BEYOND);
    }
    if (n < 0) {
      return finding(SIZE);
    }
    if (n > SHEET_MOST) {
      return finding(BEYOND);
    }
    sheets[s].renew(bits, n);
    return sheets[s].length;
  }

  public int write(int s, int i, int v) {
    if (!isSheet(s)) {
      return finding(BEYOND);
    }
    if (sheets[s].isMissing()) {
      return finding(MISSING);
    }
    if (!isWithin(i, 0, sheets[s].length - 1)) {
      return finding(BEYOND);
    }
    sheets[s].put(i, v);
    return 1;
  }

  public int copy(int s, int from, int t, int to, int n) {
    if (!isSheet(s) || !isSheet(t)) {
      return finding(BEYOND);
    }
    if (sheets[s].isMissing() || sheets[t].isMissing()) {
      return finding(MISSING);
    }
    if (sheets[s].bits != sheets[t].bits) {
      return finding(OTHER_KIND);
    }
    if (!sheets[s].hasRow(from, n) || !sheets[t].hasRow(to, n)) {
      return finding(BEYOND);
    }
    System.arraycopy(sheets[s].numbers, from, sheets[t].numbers, to, n);
    return n;
  }

  public int load(int s) {
    if (!isSheet(s)) {
      return finding(BEYOND);
    }
    if (sheets[s].isMissing()) {
      return finding(MISSING);
    }
    int came = 0;
    int most = Math.min(sheets[s].length, CELLS);
    while (came < most && isWithin(sheets[s].numbers[came], 0, STUFF_MOST)) {
      land.stuffs[came] = sheets[s].numbers[came];
      came++;
    }
    return came;
  }

  public int judge(int s, int letter) {
    if (!isSheet(s)) {
      return finding(BEYOND);
    }
    if (sheets[s].isMissing()) {
      return finding(MISSING);
    }
    if (!isLetter(letter)) {
      return finding(BEYOND);
    }
    chart.lay(land);
    int right = rightCells(sheets[s], land.letterCells[letter]);
    return right == sheets[s].length ? 0 : 1 + right;
  }

  // ---- images

  public int image() {
    kept.become(land);
    isKept = true;
    return 1;
  }

  public int undo() {
    if (!isKept) {
      return finding(NONE);
    }
    land.become(kept);
    return land.hour;
  }

  public int tear() {
    int was = isKept ? 1 : 0;
    isKept = false;
    return was;
  }

  public int count(int what) {
    switch (what) {
      case 0: return land.hour;
      case 1: return land.throwerCount;
      case 2: return land.letterCount;
      case 3: return land.thanksOfAll();
      case 4: return land.illCount();
      case 5: return tape.length;
      case 6: return land.z;
      case 7: return land.heldSpots();
      default: return finding(BEYOND);
    }
  }

  public int status(int which) {
    if (isWithin(which, 0, FINDINGS - 1)) {
      return found[which];
    }
    if (which != -1) {
      return finding(BEYOND);
    }
    int all = 0;
    for (int f = 0; f < FINDINGS; f++) {
      all += found[f];
    }
    return all;
  }

  // ---- what the calls share

  private int finding(int f) {
    int place = BEYOND - f;
    if (isWithin(place, 0, FINDINGS - 1)) {
      found[place]++;
    }
    return f;
  }

  private static boolean isWithin(int v, int least, int most) {
    return v >= least && v <= most;
  }

  private static boolean isCell(int v) {
    return isWithin(v, 0, CELLS - 1);
  }

  private static boolean isKind(int v) {
    return isWithin(v, 0, KIND_MOST);
  }

  private static boolean isSheet(int v) {
    return isWithin(v, 0, SHEETS - 1);
  }

  private static boolean isThrow(int far, int clock) {
    return isWithin(far, 0, 1) && isWithin(clock, 0, DAY - 1);
  }

  private boolean isThrower(int v) {
    return isWithin(v, 0, land.throwerCount - 1);
  }

  private boolean isLetter(int v) {
    return isWithin(v, 0, land.letterCount - 1);
  }

  private static boolean isNight(int hour) {
    int clock = hour % DAY;
    return clock >= 18 || clock <= 5;
  }

  /** Lets the letters go through the hour h hours after the chart was laid; how many came home. */
  private int passHour(int h) {
    int came = 0;
    for (int i = 0; i < land.letterCount; i++) {
      int cell = land.letterCells[i];
      int by = chart.throwersOn[cell];
      if (by != NOBODY) {
        land.throwers[by].facts[Thrower.THANKS]++;
      }
      int to = drawnCell(chart.chosenRow(cell, h, chart.choices));
      if (to == land.home && cell != land.home) {
        came++;
      }
      land.letterCells[i] = to;
    }
    return came;
  }

  private int drawnCell(int row) {
    int twelfths = chart.twelfths[row];
    if (twelfths == TWELVE) {
      return chart.first[row];
    }
    if (twelfths == 0) {
      return chart.second[row];
    }
    return land.draw() % TWELVE < twelfths ? chart.first[row] : chart.second[row];
  }

  private int hoursHome(int cell, boolean isFree) {
    if (!isCell(cell)) {
      return finding(BEYOND);
    }
    chart.lay(land);
    int cells = 1 << cell;
    for (int h = 0; h <= REACH_HOURS; h++) {
      if ((cells >> land.home & 1) == 1) {
        return h;
      }
      cells = isFree ? chart.afterAny(cells, h) : chart.after(cells, h);
    }
    return finding(NONE);
  }

  private long homeParts(Land asked, int cell, int n) {
    chart.lay(asked);
    chart.spread(cell, n, chart.choices);
    return chart.parts[asked.home];
  }

  private boolean isCutOff(int cell, int n, int watched) {
    int cells = 1 << cell;
    for (int h = 0; h < n; h++) {
      cells = chart.after(cells, h) & ~(1 << watched);
    }
    return (cells >> land.home & 1) == 0;
  }

  /** How many numbers of a sheet, from the first on, a letter on a cell can go through. */
  private int rightCells(Sheet row, int cell) {
    int cells = 1 << cell;
    for (int i = 0; i < row.length; i++) {
      int then = row.numbers[i];
      if (!isCell(then) || (cells >> then & 1) == 0) {
        return i;
      }
      cells = chart.after(1 << then, i);
    }
    return row.length;
  }

  /** One who throws: nine facts, in the order in which of() tells them. */
  private static final class Thrower {
    static final int KIND = 0;
    static final int CELL = 1;
    static final int NEAR = 2;
    static final int FAR = 3;
    static final int EAST = 4;
    static final int ODDS = 5;
    static final int CHOICE = 6;
    static final int ILL = 7;
    static final int THANKS = 8;
    static final int FACTS = 9;

    private static final int STRONG = 1;
    private static final int SHAKY = 2;
    private static final int GIANT = 3;
    private static final int BLIND = 4;
    private static final int OLD = 5;
    private static final int LAD = 6;

    private static final int[] AT_FIRST = {0, 0, 2, 5, 1, 8, 0, 0, 0};
    /** What may be changed, by facts; CELL and THANKS have no room between least and most. */
    private static final int[] LEAST = {0, 0, 1, 1, 0, 0, 0, 0, 0};
    private static final int[] MOST = {6, -1, 9, 12, 1, 12, 1, 1, -1};
    private static final int[] KIND_ABOVE = {-1, 0, 0, 1, 2, 0, 0};

    final int[] facts = new int[FACTS];

    static boolean canBecome(int what, int v) {
      return isWithin(what, 0, FACTS - 1) && isWithin(v, LEAST[what], MOST[what]);
    }

    void begin(int kind, int cell) {
      System.arraycopy(AT_FIRST, 0, facts, 0, FACTS);
      facts[KIND] = kind;
      facts[CELL] = cell;
    }

    boolean isIll() {
      return facts[ILL] == 1;
    }

    boolean isA(int kind) {
      int own = facts[KIND];
      for (int up = 0; up <= KIND_MOST && isKind(own); up++) {
        if (own == kind) {
          return true;
        }
        own = KIND_ABOVE[own];
      }
      return false;
    }

    int reach(int far, boolean night) {
      int plain = far == 1 ? facts[FAR] : facts[NEAR];
      switch (facts[KIND]) {
        case STRONG: return plain + 1;
        case GIANT: return far == 1 ? plain + 3 : plain + 1;
        case OLD: return night ? plain - 1 : plain;
        case LAD: return plain / 2;
        default: return plain;
      }
    }

    int sure(int far, boolean night) {
      int plain = far == 1 ? Math.max(0, facts[ODDS] - 2) : facts[ODDS];
      switch (facts[KIND]) {
        case SHAKY: return Math.max(0, plain - 3);
        case BLIND: return night ? 0 : Math.max(0, plain - 3);
        case LAD: return TWELVE;
        default: return plain;
      }
    }

    int toldCell(int far, boolean night) {
      return cellAway(reach(far, night));
    }

    int shortCell(int far, boolean night) {
      return cellAway(Math.max(0, reach(far, night) - 1));
    }

    private int cellAway(int away) {
      int cell = facts[EAST] == 1 ? facts[CELL] + away : facts[CELL] - away;
      return Math.max(0, Math.min(CELLS - 1, cell));
    }

    boolean canHit(int cell, boolean night) {
      for (int far = 0; far <= 1; far++) {
        int sure = sure(far, night);
        if (sure > 0 && toldCell(far, night) == cell || sure < TWELVE && shortCell(far, night) == cell) {
          return true;
        }
      }
      return false;
    }
  }

  /** All that an image keeps. */
  private static final class Land {
    static final int AT_HOME = 0;
    static final int DROWNED = 1;
    static final int ELSEWHERE = 2;

    private static final int BROOK = 1;
    private static final int HEDGE = 2;
    private static final int ROAD = 3;

    final int[] stuffs = new int[CELLS];
    final Thrower[] throwers = new Thrower[THROWERS_MOST];
    final int[] letterCells = new int[LETTERS_MOST];
    final int[] spots = new int[SPOTS];
    int throwerCount;
    int letterCount;
    int home = CELLS - 1;
    int fetch = 2;
    int hour;
    int z = 1;

    Land() {
      for (int t = 0; t < THROWERS_MOST; t++) {
        throwers[t] = new Thrower();
      }
      Arrays.fill(spots, NOBODY);
    }

    void become(Land other) {
      System.arraycopy(other.stuffs, 0, stuffs, 0, CELLS);
      System.arraycopy(other.letterCells, 0, letterCells, 0, LETTERS_MOST);
      System.arraycopy(other.spots, 0, spots, 0, SPOTS);
      for (int t = 0; t < THROWERS_MOST; t++) {
        System.arraycopy(other.throwers[t].facts, 0, throwers[t].facts, 0, Thrower.FACTS);
      }
      throwerCount = other.throwerCount;
      letterCount = other.letterCount;
      home = other.home;
      fetch = other.fetch;
      hour = other.hour;
      z = other.z;
    }

    /** A new thrower's number; NOBODY where there is no room. */
    int addThrower(int kind, int cell) {
      if (throwerCount >= THROWERS_MOST) {
        return NOBODY;
      }
      throwers[throwerCount].begin(kind, cell);
      throwerCount++;
      return throwerCount - 1;
    }

    /** A new letter's number; NOBODY where there is no room. */
    int addLetter(int cell) {
      if (letterCount >= LETTERS_MOST) {
        return NOBODY;
      }
      letterCells[letterCount] = cell;
      letterCount++;
      return letterCount - 1;
    }

    int standingOn(int cell) {
      for (int t = 0; t < throwerCount; t++) {
        if (throwers[t].facts[Thrower.CELL] == cell) {
          return t;
        }
      }
      return NOBODY;
    }

    int placeSort(int cell) {
      if (cell == home) {
        return AT_HOME;
      }
      return stuffs[cell] == BROOK ? DROWNED : ELSEWHERE;
    }

    boolean staysOn(int cell) {
      return placeSort(cell) != ELSEWHERE;
    }

    boolean isHedge(int cell) {
      return stuffs[cell] == HEDGE;
    }

    boolean isRoad(int cell) {
      return stuffs[cell] == ROAD;
    }

    /** Who throws a letter on a cell, or has it fetched: he on the cell is just the nearest of all. */
    int handFor(int cell) {
      if (staysOn(cell)) {
        return NOBODY;
      }
      int hand = NOBODY;
      for (int t = 0; t < throwerCount; t++) {
        if (!throwers[t].isIll() && away(t, cell) <= fetch && (hand == NOBODY || isNearer(t, hand, cell))) {
          hand = t;
        }
      }
      return hand;
    }

    private int away(int thrower, int cell) {
      return Math.abs(throwers[thrower].facts[Thrower.CELL] - cell);
    }

    private boolean isNearer(int one, int other, int cell) {
      if (away(one, cell) != away(other, cell)) {
        return away(one, cell) < away(other, cell);
      }
      return throwers[one].facts[Thrower.CELL] < throwers[other].facts[Thrower.CELL];
    }

    int choiceSet() {
      int choices = 0;
      for (int t = 0; t < throwerCount; t++) {
        choices |= throwers[t].facts[Thrower.CHOICE] << t;
      }
      return choices;
    }

    int draw() {
      z = z * 1103515245 + 12345;
      return z >>> 8;
    }

    int thanksOfAll() {
      return sumOf(Thrower.THANKS);
    }

    int illCount() {
      return sumOf(Thrower.ILL);
    }

    private int sumOf(int fact) {
      int sum = 0;
      for (int t = 0; t < throwerCount; t++) {
        sum += throwers[t].facts[fact];
      }
      return sum;
    }

    Thrower withMostThanks() {
      Thrower most = throwers[0];
      for (int t = 1; t < throwerCount; t++) {
        if (throwers[t].facts[Thrower.THANKS] > most.facts[Thrower.THANKS]) {
          most = throwers[t];
        }
      }
      return most;
    }

    Thrower withLeastThanks() {
      Thrower least = throwers[0];
      for (int t = 1; t < throwerCount; t++) {
        if (throwers[t].facts[Thrower.THANKS] < least.facts[Thrower.THANKS]) {
          least = throwers[t];
        }
      }
      return least;
    }

    int heldSpots() {
      int held = 0;
      for (int s = 0; s < SPOTS; s++) {
        if (spots[s] != NOBODY) {
          held++;
        }
      }
      return held;
    }
  }

  /**
   * Where a letter comes to from each cell, by day and by night, near and far: laid once for a question,
   * because only night makes one hour unlike another.
   */
  private static final class Chart {
    private static final int ROWS = 4 * CELLS;

    /** By rows: the way told first, the other way, and the twelfths of the first. */
    final int[] first = new int[ROWS];
    final int[] second = new int[ROWS];
    final int[] twelfths = new int[ROWS];
    /** Whose CHOICE counts on a cell. */
    final int[] throwersOn = new int[CELLS];
    final long[] parts = new long[CELLS];
    private final long[] nextParts = new long[CELLS];
    int choices;
    private int hour;
    private int home;

    void lay(Land land) {
      choices = land.choiceSet();
      hour = land.hour;
      home = land.home;
      for (int c = 0; c < CELLS; c++) {
        layCell(land, c);
      }
    }

    private void layCell(Land land, int cell) {
      throwersOn[cell] = NOBODY;
      int hand = land.handFor(cell);
      if (hand == NOBODY) {
        layPlain(cell, unfetchedCell(land, cell), TWELVE);
        return;
      }
      Thrower one = land.throwers[hand];
      int his = one.facts[Thrower.CELL];
      if (his == cell) {
        throwersOn[cell] = hand;
        layThrows(one, cell);
      } else {
        layPlain(cell, his, land.isHedge(cell) ? 6 : TWELVE);
      }
    }

    private int unfetchedCell(Land land, int cell) {
      if (land.staysOn(cell) || !land.isRoad(cell)) {
        return cell;
      }
      return cell < land.home ? cell + 1 : cell - 1;
    }

    private void layPlain(int cell, int to, int parted) {
      for (int row = cell; row < ROWS; row += CELLS) {
        first[row] = to;
        second[row] = cell;
        twelfths[row] = parted;
      }
    }

    private void layThrows(Thrower one, int cell) {
      for (int kind = 0; kind < 4; kind++) {
        boolean night = kind >= 2;
        int far = kind & 1;
        int row = kind * CELLS + cell;
        first[row] = one.toldCell(far, night);
        second[row] = one.shortCell(far, night);
        twelfths[row] = one.sure(far, night);
      }
    }

    /** The row of a cell h hours from now. */
    int row(int cell, int h, int far) {
      return (isNight(hour + h) ? 2 + far : far) * CELLS + cell;
    }

    int chosenRow(int cell, int h, int chosen) {
      int by = throwersOn[cell];
      return row(cell, h, by == NOBODY ? 0 : chosen >> by & 1);
    }

    private int cellsOf(int row) {
      int cells = 0;
      if (twelfths[row] > 0) {
        cells |= 1 << first[row];
      }
      if (twelfths[row] < TWELVE) {
        cells |= 1 << second[row];
      }
      return cells;
    }

    /** Cells to which letters on a set of cells can come in the hour h hours from now. */
    int after(int cells, int h) {
      int then = 0;
      for (int c = 0; c < CELLS; c++) {
        if ((cells >> c & 1) == 1) {
          then |= cellsOf(chosenRow(c, h, choices));
        }
      }
      return then;
    }

    /** As after(), with either throw. */
    int afterAny(int cells, int h) {
      int then = 0;
      for (int c = 0; c < CELLS; c++) {
        if ((cells >> c & 1) == 1) {
          then |= cellsOf(row(c, h, 0)) | cellsOf(row(c, h, 1));
        }
      }
      return then;
    }

    /** Cells from which letters can come to one of a set in the hour h hours from now. */
    int ahead(int cells, int h) {
      int before = 0;
      for (int c = 0; c < CELLS; c++) {
        if ((cellsOf(chosenRow(c, h, choices)) & cells) != 0) {
          before |= 1 << c;
        }
      }
      return before;
    }

    /** Makes parts those of 12 to the n by which a letter begun on a cell is on each n hours later. */
    void spread(int cell, int n, int chosen) {
      Arrays.fill(parts, 0L);
      parts[cell] = 1;
      for (int h = 0; h < n; h++) {
        Arrays.fill(nextParts, 0L);
        for (int c = 0; c < CELLS; c++) {
          if (parts[c] != 0) {
            int row = chosenRow(c, h, chosen);
            nextParts[first[row]] += parts[c] * twelfths[row];
            nextParts[second[row]] += parts[c] * (TWELVE - twelfths[row]);
          }
        }
        System.arraycopy(nextParts, 0, parts, 0, CELLS);
      }
    }

    /** Makes parts the most by which a letter on each cell, begin hours from now, can be home by the end. */
    void weigh(int begin, int end) {
      Arrays.fill(parts, 0L);
      parts[home] = 1;
      for (int h = end - 1; h >= begin; h--) {
        for (int c = 0; c < CELLS; c++) {
          nextParts[c] = Math.max(worth(row(c, h, 0)), worth(row(c, h, 1)));
        }
        System.arraycopy(nextParts, 0, parts, 0, CELLS);
      }
    }

    /** What a row is worth by the parts of the hour behind it. */
    long worth(int row) {
      return parts[first[row]] * twelfths[row] + parts[second[row]] * (TWELVE - twelfths[row]);
    }
  }

  /** The bytes fed, and the token at which they are read. */
  private static final class Tape {
    static final int WORD = 0;
    static final int NUMBER = 1;
    static final int SIGN = 2;
    static final int END = 3;
    static final int ALIEN = 4;

    private static final int BLANK = 32;
    /** Above every number that a text may hold: a longer row of digits is no greater. */
    private static final int TOO_GREAT = 1000;

    final int[] bytes = new int[TAPE_MOST];
    int length;
    int token;
    int start;
    int value;
    private int end;

    void readFirst() {
      end = 0;
      readOn();
    }

    void readOn() {
      start = end;
      while (start < length && bytes[start] == BLANK) {
        start++;
      }
      end = start;
      if (start >= length) {
        token = END;
      } else if (isLetterByte(bytes[start])) {
        readWord();
      } else if (isDigit(bytes[start])) {
        readNumber();
      } else {
        token = bytes[start] == ';' ? SIGN : ALIEN;
        end++;
      }
    }

    private void readWord() {
      token = WORD;
      while (end < length && isLetterByte(bytes[end])) {
        end++;
      }
    }

    private void readNumber() {
      token = NUMBER;
      value = 0;
      while (end < length && isDigit(bytes[end])) {
        value = Math.min(TOO_GREAT, value * 10 + bytes[end] - '0');
        end++;
      }
    }

    private static boolean isLetterByte(int b) {
      return b >= 'a' && b <= 'z';
    }

    private static boolean isDigit(int b) {
      return b >= '0' && b <= '9';
    }

    boolean isWord(String word) {
      if (token != WORD || end - start != word.length()) {
        return false;
      }
      for (int i = 0; i < word.length(); i++) {
        if (bytes[start + i] != word.charAt(i)) {
          return false;
        }
      }
      return true;
    }

    boolean isNumber(int least, int most) {
      return token == NUMBER && isWithin(value, least, most);
    }
  }

  /** Reads a text item by item into a land; where a reading fails, the tape stands on the token at fault. */
  private static final class TextReader {
    /** How many items, or -1 less the fault. */
    static int readItems(Tape tape, Land land) {
      tape.readFirst();
      for (int items = 1; items <= TAPE_MOST; items++) {
        if (!readItem(tape, land)) {
          break;
        }
        if (tape.token == Tape.END) {
          return items;
        }
        if (tape.token != Tape.SIGN) {
          break;
        }
        tape.readOn();
      }
      return -1 - tape.start;
    }

    private static boolean readItem(Tape tape, Land land) {
      int stuff = namedStuff(tape);
      if (stuff != NOBODY) {
        return readStuff(tape, land, stuff);
      }
      int kind = namedKind(tape);
      if (kind != NOBODY) {
        return readThrower(tape, land, kind);
      }
      if (tape.isWord("home")) {
        return readHome(tape, land);
      }
      if (tape.isWord("fetch")) {
        return readFetch(tape, land);
      }
      return tape.isWord("letter") && readLetter(tape, land);
    }

    private static int namedStuff(Tape tape) {
      if (tape.isWord("grass")) {
        return 0;
      }
      if (tape.isWord("brook")) {
        return Land.BROOK;
      }
      if (tape.isWord("hedge")) {
        return Land.HEDGE;
      }
      return tape.isWord("road") ? Land.ROAD : NOBODY;
    }

    private static int namedKind(Tape tape) {
      if (tape.isWord("thrower")) {
        return 0;
      }
      if (tape.isWord("strong")) {
        return Thrower.STRONG;
      }
      if (tape.isWord("shaky")) {
        return Thrower.SHAKY;
      }
      if (tape.isWord("giant")) {
        return Thrower.GIANT;
      }
      if (tape.isWord("blind")) {
        return Thrower.BLIND;
      }
      if (tape.isWord("old")) {
        return Thrower.OLD;
      }
      return tape.isWord("lad") ? Thrower.LAD : NOBODY;
    }

    private static boolean readStuff(Tape tape, Land land, int stuff) {
      tape.readOn();
      if (!tape.isNumber(0, CELLS - 1)) {
        return false;
      }
      int begin = tape.value;
      int end = begin;
      tape.readOn();
      if (tape.isWord("to")) {
        tape.readOn();
        if (!tape.isNumber(begin, CELLS - 1)) {
          return false;
        }
        end = tape.value;
        tape.readOn();
      }
      for (int c = begin; c <= end; c++) {
        land.stuffs[c] = stuff;
      }
      return true;
    }

    private static boolean readHome(Tape tape, Land land) {
      tape.readOn();
      if (!tape.isNumber(0, CELLS - 1)) {
        return false;
      }
      land.home = tape.value;
      tape.readOn();
      return true;
    }

    private static boolean readFetch(Tape tape, Land land) {
      tape.readOn();
      if (!tape.isNumber(0, FETCH_MOST)) {
        return false;
      }
      land.fetch = tape.value;
      tape.readOn();
      return true;
    }

    private static boolean readLetter(Tape tape, Land land) {
      if (land.letterCount >= LETTERS_MOST) {
        return false;
      }
      tape.readOn();
      if (!tape.isNumber(0, CELLS - 1)) {
        return false;
      }
      land.addLetter(tape.value);
      tape.readOn();
      return true;
    }

    private static boolean readThrower(Tape tape, Land land, int kind) {
      if (land.throwerCount >= THROWERS_MOST) {
        return false;
      }
      tape.readOn();
      if (!tape.isWord("at")) {
        return false;
      }
      tape.readOn();
      if (!tape.isNumber(0, CELLS - 1) || land.standingOn(tape.value) != NOBODY) {
        return false;
      }
      int number = land.addThrower(kind, tape.value);
      if (number == NOBODY) {
        return false;
      }
      int[] facts = land.throwers[number].facts;
      tape.readOn();
      if (!readPerhaps(tape, "near", facts, Thrower.NEAR) || !readPerhaps(tape, "far", facts, Thrower.FAR)
          || !readPerhaps(tape, "odds", facts, Thrower.ODDS)) {
        return false;
      }
      if (tape.isWord("west")) {
        facts[Thrower.EAST] = 0;
        tape.readOn();
      }
      return true;
    }

    /** True where the word isn't there at all, too. */
    private static boolean readPerhaps(Tape tape, String word, int[] facts, int what) {
      if (!tape.isWord(word)) {
        return true;
      }
      tape.readOn();
      if (!tape.isNumber(Thrower.LEAST[what], Thrower.MOST[what])) {
        return false;
      }
      facts[what] = tape.value;
      tape.readOn();
      return true;
    }
  }

  /** A row of numbers; of 0 bits while it is missing. */
  private static final class Sheet {
    final int[] numbers = new int[SHEET_MOST];
    int bits;
    int length;

    static boolean isWidth(int bits) {
      return bits == 0 || bits == 8 || bits == 16 || bits == 32;
    }

    boolean isMissing() {
      return bits == 0;
    }

    void renew(int newBits, int n) {
      bits = newBits;
      length = newBits == 0 ? 0 : n;
      Arrays.fill(numbers, 0);
    }

    /** Keeps the lowest bits, the highest of them as the sign. */
    void put(int i, int v) {
      int above = 32 - bits;
      numbers[i] = v << above >> above;
    }

    boolean hasRow(int begin, int n) {
      return begin >= 0 && n >= 0 && (long) begin + n <= length;
    }
  }
}
