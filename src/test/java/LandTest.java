/** Promises 1 to 10: a new object, the land, throwers. */
public final class LandTest {
  private static final int[] WRONG = {-1, Integer.MIN_VALUE, Integer.MAX_VALUE};

  public static void main(String[] args) {
    aNewObject();
    stuff();
    rule();
    thrower();
    of();
    change();
    walk();
    told();
    toldByClock();
    falls();
    next();
    nextOfTheIll();
    Due.end();
  }

  private static void aNewObject() {
    StonePost x = new StonePost();
    int[] counts = {0, 0, 0, 0, 0, 0, 1, 0};
    for (int what = 0; what < counts.length; what++) {
      Due.is("count(" + what + ")", x.count(what), counts[what]);
    }
    for (int which = -1; which <= 6; which++) {
      Due.is("status(" + which + ")", x.status(which), 0);
    }
    for (int cell = 0; cell < 24; cell++) {
      Due.is("stuff(" + cell + ")", x.stuff(cell, 0), 0);
    }
    Due.is("HOME", x.rule(0, 23), 23);
    Due.is("FETCH", x.rule(1, 2), 2);
    Due.is("wipe()", x.wipe(), 0);
    Due.is("tear()", x.tear(), 0);
    Due.is("undo()", x.undo(), Due.NONE);
    for (int spot = 0; spot < 10; spot++) {
      Due.is("as(" + spot + ", 0)", x.as(spot, 0), Due.MISSING);
    }
    for (int s = 0; s < 4; s++) {
      Due.is("load(" + s + ")", x.load(s), Due.MISSING);
    }
  }

  private static void stuff() {
    StonePost x = new StonePost();
    for (int cell = 0; cell < 24; cell++) {
      Due.is("stuff", x.stuff(cell, cell % 4), 0);
    }
    for (int cell = 0; cell < 24; cell++) {
      Due.is("stuff again", x.stuff(cell, 3), cell % 4);
    }
    Due.is("stuff(24, 0)", x.stuff(24, 0), Due.BEYOND);
    Due.is("stuff(0, 4)", x.stuff(0, 4), Due.BEYOND);
    for (int w : WRONG) {
      Due.is("stuff(w, 0)", x.stuff(w, 0), Due.BEYOND);
      Due.is("stuff(0, w)", x.stuff(0, w), Due.BEYOND);
    }
    Due.is("unchanged", x.stuff(0, 0), 3);
    Due.is("status(0)", x.status(0), 8);
  }

  private static void rule() {
    StonePost x = new StonePost();
    Due.is("rule(0, 0)", x.rule(0, 0), 23);
    Due.is("rule(0, 7)", x.rule(0, 7), 0);
    Due.is("rule(1, 9)", x.rule(1, 9), 2);
    Due.is("rule(1, 0)", x.rule(1, 0), 9);
    Due.is("rule(0, 24)", x.rule(0, 24), Due.BEYOND);
    Due.is("rule(1, 10)", x.rule(1, 10), Due.BEYOND);
    Due.is("rule(2, 0)", x.rule(2, 0), Due.BEYOND);
    for (int w : WRONG) {
      Due.is("rule(w, 0)", x.rule(w, 0), Due.BEYOND);
      Due.is("rule(0, w)", x.rule(0, w), Due.BEYOND);
      Due.is("rule(1, w)", x.rule(1, w), Due.BEYOND);
    }
    Due.is("HOME unchanged", x.rule(0, 1), 7);
    Due.is("FETCH unchanged", x.rule(1, 1), 0);
    Due.is("fewest(1) on the new HOME", x.fewest(1), 0);
  }

  private static void thrower() {
    StonePost x = new StonePost();
    for (int t = 0; t < 10; t++) {
      Due.is("thrower", x.thrower(t % 7, 2 * t), t);
      Due.is("count(1)", x.count(1), t + 1);
    }
    Due.is("no such kind, though one is there", x.thrower(7, 0), Due.BEYOND);
    Due.is("no such cell", x.thrower(0, 24), Due.BEYOND);
    for (int w : WRONG) {
      Due.is("thrower(w, 1)", x.thrower(w, 1), Due.BEYOND);
      Due.is("thrower(0, w)", x.thrower(0, w), Due.BEYOND);
    }
    Due.is("one is there, though it is full", x.thrower(0, 18), Due.STATE);
    Due.is("full", x.thrower(6, 1), Due.FULL);
    Due.is("count(1)", x.count(1), 10);
    x = new StonePost();
    x.thrower(0, 5);
    x.change(0, 7, 1);
    Due.is("an ill one is there, too", x.thrower(0, 5), Due.STATE);
  }

  private static void of() {
    StonePost x = new StonePost();
    for (int kind = 0; kind <= 6; kind++) {
      x.thrower(kind, 20 - kind);
      int[] atFirst = {kind, 20 - kind, 2, 5, 1, 8, 0, 0, 0};
      for (int what = 0; what <= 8; what++) {
        Due.is("of(" + kind + ", " + what + ")", x.of(kind, what), atFirst[what]);
      }
    }
    Due.is("of(7, 0)", x.of(7, 0), Due.BEYOND);
    Due.is("of(0, 9)", x.of(0, 9), Due.BEYOND);
    for (int w : WRONG) {
      Due.is("of(w, 0)", x.of(w, 0), Due.BEYOND);
      Due.is("of(0, w)", x.of(0, w), Due.BEYOND);
    }
  }

  private static void change() {
    StonePost x = new StonePost();
    x.thrower(0, 3);
    x.thrower(1, 9);
    int[] whats = {0, 2, 3, 4, 5, 6, 7};
    int[] least = {0, 1, 1, 0, 0, 0, 0};
    int[] most = {6, 9, 12, 1, 12, 1, 1};
    int[] atFirst = {1, 2, 5, 1, 8, 0, 0};
    for (int i = 0; i < whats.length; i++) {
      int what = whats[i];
      Due.is("change to the least", x.change(1, what, least[i]), atFirst[i]);
      Due.is("change to the most", x.change(1, what, most[i]), least[i]);
      Due.is("below", x.change(1, what, least[i] - 1), Due.BEYOND);
      Due.is("above", x.change(1, what, most[i] + 1), Due.BEYOND);
      Due.is("far above", x.change(1, what, Integer.MAX_VALUE), Due.BEYOND);
      Due.is("as changed", x.of(1, what), most[i]);
    }
    for (int what : new int[] {1, 8, 9, -1, Integer.MIN_VALUE, Integer.MAX_VALUE}) {
      Due.is("change(1, " + what + ", 0)", x.change(1, what, 0), Due.BEYOND);
      Due.is("change(1, " + what + ", -1)", x.change(1, what, -1), Due.BEYOND);
    }
    Due.is("change(2, 0, 0)", x.change(2, 0, 0), Due.BEYOND);
    Due.is("change(-1, 0, 0)", x.change(-1, 0, 0), Due.BEYOND);
    int[] other = {0, 3, 2, 5, 1, 8, 0, 0, 0};
    for (int what = 0; what <= 8; what++) {
      Due.is("the other one's " + what, x.of(0, what), other[what]);
    }
  }

  private static void walk() {
    StonePost x = new StonePost();
    x.thrower(0, 3);
    x.thrower(0, 4);
    Due.is("walk(0, 23)", x.walk(0, 23), 3);
    Due.is("to where he is", x.walk(0, 23), 23);
    Due.is("another one is there", x.walk(0, 4), Due.STATE);
    Due.is("walk(2, 0)", x.walk(2, 0), Due.BEYOND);
    Due.is("walk(0, 24)", x.walk(0, 24), Due.BEYOND);
    for (int w : WRONG) {
      Due.is("walk(w, 4)", x.walk(w, 4), Due.BEYOND);
      Due.is("walk(0, w)", x.walk(0, w), Due.BEYOND);
    }
    Due.is("he stays", x.of(0, 1), 23);
    Due.is("to a cell that was left", x.walk(1, 3), 4);
    Due.is("a new one where one was", x.thrower(0, 4), 2);
  }

  private static void told() {
    StonePost x = Due.land("thrower at 0 near 4 far 9 odds 6;strong at 1 near 4 far 9 odds 6");
    Due.text(x, "shaky at 2 near 4 far 9 odds 6;giant at 3 near 4 far 9 odds 6;blind at 4 near 4 far 9 odds 6");
    Due.text(x, "old at 5 near 5 far 1 odds 6;lad at 6 near 5 far 1 odds 6");
    int[][] reach = {{4, 9}, {5, 10}, {4, 9}, {5, 12}, {4, 9}, {5, 1}, {2, 0}};
    int[][] nightReach = {{4, 9}, {5, 10}, {4, 9}, {5, 12}, {4, 9}, {4, 0}, {2, 0}};
    int[][] sure = {{6, 4}, {6, 4}, {3, 1}, {6, 4}, {3, 1}, {6, 4}, {12, 12}};
    int[][] nightSure = {{6, 4}, {6, 4}, {3, 1}, {6, 4}, {0, 0}, {6, 4}, {12, 12}};
    for (int t = 0; t <= 6; t++) {
      for (int far = 0; far <= 1; far++) {
        String call = "told(" + t + ", .., " + far + ")";
        Due.is(call + " reach", x.told(t, 0, far, 12), reach[t][far]);
        Due.is(call + " reach by night", x.told(t, 0, far, 0), nightReach[t][far]);
        Due.is(call + " sure", x.told(t, 1, far, 12), sure[t][far]);
        Due.is(call + " sure by night", x.told(t, 1, far, 23), nightSure[t][far]);
      }
    }
    int[] odds = {0, 1, 2, 3, 4, 5, 12};
    int[] far = {0, 0, 0, 1, 2, 3, 10};
    int[] shaky = {0, 0, 0, 0, 1, 2, 9};
    int[] shakyFar = {0, 0, 0, 0, 0, 0, 7};
    for (int i = 0; i < odds.length; i++) {
      x.change(0, 5, odds[i]);
      x.change(2, 5, odds[i]);
      x.change(4, 5, odds[i]);
      Due.is("blind near of " + odds[i], x.told(4, 1, 0, 12), shaky[i]);
      Due.is("blind far of " + odds[i], x.told(4, 1, 1, 12), shakyFar[i]);
      Due.is("sure near of " + odds[i], x.told(0, 1, 0, 12), odds[i]);
      Due.is("sure far of " + odds[i], x.told(0, 1, 1, 12), far[i]);
      Due.is("shaky near of " + odds[i], x.told(2, 1, 0, 12), shaky[i]);
      Due.is("shaky far of " + odds[i], x.told(2, 1, 1, 12), shakyFar[i]);
    }
    for (int w : new int[] {-1, 24, Integer.MIN_VALUE, Integer.MAX_VALUE}) {
      Due.is("told(w, 0, 0, 0)", x.told(w, 0, 0, 0), Due.BEYOND);
      Due.is("told(0, w, 0, 0)", x.told(0, w, 0, 0), Due.BEYOND);
      Due.is("told(0, 0, w, 0)", x.told(0, 0, w, 0), Due.BEYOND);
      Due.is("told(0, 0, 0, w)", x.told(0, 0, 0, w), Due.BEYOND);
    }
    Due.is("told(7, 0, 0, 0)", x.told(7, 0, 0, 0), Due.BEYOND);
    Due.is("told(0, 2, 0, 0)", x.told(0, 2, 0, 0), Due.BEYOND);
    Due.is("told(0, 0, 2, 0)", x.told(0, 0, 2, 0), Due.BEYOND);
  }

  private static void toldByClock() {
    StonePost x = Due.land("old at 5 near 5;blind at 6 odds 12");
    for (int clock = 0; clock < 24; clock++) {
      boolean night = clock >= 18 || clock <= 5;
      Due.is("old at " + clock, x.told(0, 0, 0, clock), night ? 4 : 5);
      Due.is("blind at " + clock, x.told(1, 1, 0, clock), night ? 0 : 9);
      Due.is("old falls at " + clock, x.falls(0, 0, clock, false), night ? 9 : 10);
      Due.is("whose at " + clock, x.whose(8, clock), night ? 1 : 2);
    }
  }

  private static void falls() {
    StonePost x = Due.land("thrower at 10 near 1 far 12;lad at 20 near 1 far 9;thrower at 2 near 4 far 1 west;lad at 4 near 9");
    checkFalls(x, 0, 0, 11, 10);
    checkFalls(x, 0, 1, 22, 21);
    checkFalls(x, 1, 0, 20, 20);
    checkFalls(x, 1, 1, 23, 23);
    checkFalls(x, 2, 0, 0, 0);
    checkFalls(x, 2, 1, 1, 2);
    checkFalls(x, 3, 0, 8, 7);
    x.walk(0, 12);
    checkFalls(x, 0, 1, 23, 23);
    x.walk(0, 11);
    checkFalls(x, 0, 1, 23, 22);
    x.change(0, 4, 0);
    checkFalls(x, 0, 1, 0, 0);
    x.walk(0, 12);
    checkFalls(x, 0, 1, 0, 1);
    x.change(0, 5, 12);
    checkFalls(x, 0, 0, 11, 12);
    for (int w : new int[] {-1, 24, Integer.MIN_VALUE, Integer.MAX_VALUE}) {
      Due.is("falls(w, 0, 0)", x.falls(w, 0, 0, false), Due.BEYOND);
      Due.is("falls(0, w, 0)", x.falls(0, w, 0, true), Due.BEYOND);
      Due.is("falls(0, 0, w)", x.falls(0, 0, w, false), Due.BEYOND);
    }
    Due.is("falls(4, 0, 0)", x.falls(4, 0, 0, false), Due.BEYOND);
    Due.is("falls(0, 2, 0)", x.falls(0, 2, 0, false), Due.BEYOND);
  }

  private static void checkFalls(StonePost x, int thrower, int far, int told, int tooShort) {
    String call = "falls(" + thrower + ", " + far + ")";
    Due.is(call, x.falls(thrower, far, 12, false), told);
    Due.is(call + " short", x.falls(thrower, far, 12, true), tooShort);
  }

  private static void next() {
    StonePost x = Due.land("thrower at 9;thrower at 5");
    int none = Due.NONE;
    int[] due = {none, none, none, 1, 1, 1, 1, 1, 0, 0, 0, 0, none};
    for (int cell = 0; cell < due.length; cell++) {
      Due.is("next(" + cell + ")", x.next(cell), due[cell]);
    }
    x.rule(1, 0);
    Due.is("FETCH 0, one is there", x.next(9), 0);
    Due.is("FETCH 0, one is beside", x.next(8), none);
    x.rule(1, 9);
    Due.is("FETCH 9", x.next(18), 0);
    Due.is("beyond FETCH 9", x.next(19), none);
    x.rule(0, 9);
    Due.is("on HOME", x.next(9), none);
    Due.is("fetched to HOME", x.next(8), 0);
    x.stuff(5, 1);
    Due.is("in a BROOK", x.next(5), none);
    Due.is("fetched to one in a BROOK", x.next(6), 1);
    x.stuff(5, 2);
    x.stuff(6, 3);
    Due.is("on a HEDGE", x.next(5), 1);
    Due.is("on a ROAD", x.next(6), 1);
    Due.is("next(24)", x.next(24), Due.BEYOND);
    for (int w : WRONG) {
      Due.is("next(w)", x.next(w), Due.BEYOND);
    }
  }

  private static void nextOfTheIll() {
    StonePost x = Due.land("thrower at 9;thrower at 5;fetch 4");
    x.change(1, 7, 1);
    Due.is("from the ill one's cell", x.next(5), 0);
    Due.is("past the ill one", x.next(6), 0);
    Due.is("only the ill one is near", x.next(4), Due.NONE);
    x.change(1, 7, 0);
    Due.is("well again", x.next(5), 1);
  }
}
