/** Edges of promises 1 to 10: a new object, the land, throwers. */
public final class EdgesOfLandTest {
  public static void main(String[] args) {
    aNewObject();
    stuff();
    rule();
    thrower();
    of();
    change();
    walk();
    toldRanges();
    reach();
    sure();
    night();
    fallsRanges();
    fallsShort();
    fallsHeld();
    nextRanges();
    nextNearest();
    nextNone();
    Edge.end();
  }

  private static void aNewObject() {
    Edge.holds("Promise 1: all STUFF is GRASS at first", "0..23: stuff(#, 3) = 0");
    Edge.holds("Promise 1: HOME is 23, FETCH 2 at first", "rule(0, 0) = 23", "rule(1, 0) = 2");
    Edge.holds("Promise 1: HOUR is 0, z is 1 at first", "count(0) = 0", "count(6) = 1", "seed(0) = 1");
    Edge.holds("Promise 1: no THROWERS", "count(1) = 0", "count(3) = 0", "count(4) = 0", "of(0, 0) = BEYOND");
    Edge.holds("Promise 1: no LETTERS", "count(2) = 0", "where(0) = BEYOND", "0..2: letters(#) = 0");
    Edge.holds("Promise 1: THE TAPE is empty", "count(5) = 0", "wipe() = 0", "text() = -1");
    Edge.holds("Promise 1: no image is kept", "undo() = NONE", "tear() = 0");
    Edge.holds("Promise 1: SPOTS hold nothing at first", "count(7) = 0", "0..9: as(#, 0) = MISSING");
    Edge.holds("Promise 1: SHEETS are MISSING at first", "0..3: load(#) = MISSING");
    Edge.holds("Promise 1: no act answered a finding yet", "-1..6: status(#) = 0");
  }

  private static void stuff() {
    Edge.range("Promise 2: BEYOND, CELLS 0 to 23", 0, 23, "stuff(#, 1)");
    Edge.range("Promise 2: BEYOND, STUFF 0 to 3", 0, 3, "stuff(5, #)");
    Edge.holds("Promise 2: what it was, on the first CELL", "0..3: stuff(0, #)", "stuff(0, 0) = 3", "stuff(1, 0) = 0");
    Edge.holds("Promise 2: what it was, on the last CELL", "stuff(23, 3) = 0", "stuff(23, 1) = 3", "stuff(22, 0) = 0",
        "stuff(23, 1) = 1");
    Edge.holds("Promise 2: a refused call leaves it", "stuff(0, 2) = 0", "stuff(23, 1) = 0", "stuff(-1, 3) = BEYOND",
        "stuff(24, 3) = BEYOND", "stuff(0, 4) = BEYOND", "stuff(23, -1) = BEYOND", "stuff(0, 0) = 2",
        "stuff(23, 0) = 1");
  }

  private static void rule() {
    Edge.range("Promise 3: BEYOND, HOME is a CELL", 0, 23, "rule(0, #)");
    Edge.range("Promise 3: BEYOND, FETCH 0 to 9", 0, 9, "rule(1, #)");
    Edge.range("Promise 3: BEYOND, what 0 or 1", 0, 1, "rule(#, 4)");
    Edge.holds("Promise 3: what it was, each by itself", "rule(0, 0) = 23", "rule(1, 9) = 2", "rule(0, 23) = 0",
        "rule(1, 0) = 9", "rule(0, 1) = 23", "rule(1, 1) = 0");
    Edge.holds("Promise 3: what is HOME's is not FETCH's", "rule(1, 10) = BEYOND", "rule(0, 10) = 23",
        "rule(1, 2) = 2");
    Edge.holds("Promise 3: a refused call leaves it", "rule(0, 7) = 23", "rule(1, 3) = 2", "rule(0, 24) = BEYOND",
        "rule(0, -1) = BEYOND", "rule(1, -1) = BEYOND", "rule(2, 5) = BEYOND", "rule(0, 0) = 7", "rule(1, 0) = 3");
  }

  private static void thrower() {
    Edge.range("Promise 4: BEYOND, KINDS 0 to 6", 0, 6, "thrower(#, 4)");
    Edge.range("Promise 4: BEYOND, CELLS 0 to 23", 0, 23, "thrower(2, #)");
    Edge.holds("Promise 4: its number, THROWERS 0, 1, .. at most 10", "0..9: thrower(0, #) = #", "count(1) = 10",
        "thrower(0, 10) = FULL", "thrower(6, 23) = FULL", "count(1) = 10");
    Edge.holds("Promise 4: STATE, one is there", "thrower(0, 0) = 0", "thrower(3, 0) = STATE", "thrower(3, 1) = 1",
        "thrower(3, 23) = 2", "thrower(0, 23) = STATE", "count(1) = 3");
    Edge.holds("Promise 4: STATE, an ILL one is there, too", "thrower(0, 5) = 0", "change(0, 7, 1) = 0",
        "thrower(1, 5) = STATE");
    Edge.holds("Promise 4: STATE goes with him who walks", "thrower(0, 5) = 0", "walk(0, 6) = 5",
        "thrower(1, 6) = STATE", "thrower(1, 5) = 1");
    Edge.holds("Promise 4: BEYOND ahead of STATE", "thrower(0, 5) = 0", "thrower(7, 5) = BEYOND",
        "thrower(-1, 5) = BEYOND");
    Edge.holds("Promise 4: BEYOND ahead of FULL", "0..9: thrower(0, #)", "thrower(7, 12) = BEYOND",
        "thrower(0, 24) = BEYOND", "thrower(0, -1) = BEYOND");
    Edge.holds("Promise 4: STATE ahead of FULL", "0..9: thrower(0, #)", "thrower(0, 0) = STATE",
        "thrower(0, 9) = STATE", "thrower(0, 10) = FULL");
    Edge.holds("Promise 4: one may stand on HOME, in a BROOK, on a ROAD", "stuff(3, 1)", "stuff(4, 3)",
        "thrower(0, 23) = 0", "thrower(0, 3) = 1", "thrower(0, 4) = 2");
  }

  private static void of() {
    Edge.range("Promise 5: BEYOND, no other THROWER than the one", 0, 0, "thrower(0, 4)", "of(#, 0)");
    Edge.range("Promise 5: BEYOND, no other THROWER than the ten", 0, 9, "0..9: thrower(0, #)", "of(#, 8)");
    Edge.range("Promise 5: BEYOND, what 0 to 8", 0, 8, "thrower(0, 4)", "of(0, #)");
    Edge.holds("Promise 5: BEYOND, no THROWERS", "0..8: of(0, #) = BEYOND", "of(-1, 0) = BEYOND");
    for (int kind = 0; kind <= 6; kind++) {
      Edge.holds("Promise 5: all as at first, of KIND " + kind, "thrower(" + kind + ", 23) = 0", "of(0, 0) = " + kind,
          "of(0, 1) = 23", "of(0, 2) = 2", "of(0, 3) = 5", "of(0, 4) = 1", "of(0, 5) = 8", "6..8: of(0, #) = 0");
    }
    Edge.holds("Promise 5: each has his own", "thrower(0, 3)", "thrower(6, 4)", "change(0, 2, 9)", "change(1, 2, 1)",
        "of(0, 2) = 9", "of(1, 2) = 1", "of(0, 0) = 0", "of(1, 0) = 6", "of(0, 1) = 3", "of(1, 1) = 4");
  }

  private static void change() {
    Edge.range("Promise 6: BEYOND, KIND 0 to 6", 0, 6, "thrower(3, 4)", "change(0, 0, #)");
    Edge.range("Promise 6: BEYOND, NEAR 1 to 9", 1, 9, "thrower(0, 4)", "change(0, 2, #)");
    Edge.range("Promise 6: BEYOND, FAR 1 to 12", 1, 12, "thrower(0, 4)", "change(0, 3, #)");
    Edge.range("Promise 6: BEYOND, EAST 0 or 1", 0, 1, "thrower(0, 4)", "change(0, 4, #)");
    Edge.range("Promise 6: BEYOND, ODDS 0 to 12", 0, 12, "thrower(0, 4)", "change(0, 5, #)");
    Edge.range("Promise 6: BEYOND, CHOICE 0 or 1", 0, 1, "thrower(0, 4)", "change(0, 6, #)");
    Edge.range("Promise 6: BEYOND, ILL 0 or 1", 0, 1, "thrower(0, 4)", "change(0, 7, #)");
    Edge.range("Promise 6: BEYOND, no other THROWER than the ten", 0, 9, "0..9: thrower(0, #)", "change(#, 7, 1)");
    Edge.holds("Promise 6: BEYOND, CELL is not changed so", "thrower(0, 4)", "0..23: change(0, 1, #) = BEYOND",
        "of(0, 1) = 4");
    Edge.holds("Promise 6: BEYOND, THANKS are not changed so", "thrower(0, 4)", "-1..9: change(0, 8, #) = BEYOND",
        "of(0, 8) = 0");
    Edge.holds("Promise 6: BEYOND, no such what", "thrower(0, 4)", "change(0, -1, 1) = BEYOND",
        "change(0, 9, 1) = BEYOND", "change(0, MIN, 1) = BEYOND", "change(0, MAX, 1) = BEYOND");
    Edge.holds("Promise 6: BEYOND, no THROWERS", "0..8: change(0, #, 1) = BEYOND", "change(-1, 7, 1) = BEYOND");
    Edge.holds("Promise 6: what it was, KIND", "thrower(4, 4)", "change(0, 0, 6) = 4", "change(0, 0, 0) = 6",
        "of(0, 0) = 0");
    Edge.holds("Promise 6: what it was, NEAR", "thrower(0, 4)", "change(0, 2, 9) = 2", "change(0, 2, 1) = 9",
        "of(0, 2) = 1");
    Edge.holds("Promise 6: what it was, FAR", "thrower(0, 4)", "change(0, 3, 12) = 5", "change(0, 3, 1) = 12",
        "of(0, 3) = 1");
    Edge.holds("Promise 6: what it was, EAST", "thrower(0, 4)", "change(0, 4, 0) = 1", "change(0, 4, 0) = 0",
        "of(0, 4) = 0");
    Edge.holds("Promise 6: what it was, ODDS", "thrower(0, 4)", "change(0, 5, 12) = 8", "change(0, 5, 0) = 12",
        "of(0, 5) = 0");
    Edge.holds("Promise 6: what it was, CHOICE", "thrower(0, 4)", "change(0, 6, 1) = 0", "change(0, 6, 1) = 1",
        "of(0, 6) = 1");
    Edge.holds("Promise 6: what it was, ILL", "thrower(0, 4)", "change(0, 7, 1) = 0", "change(0, 7, 0) = 1",
        "of(0, 7) = 0");
  }

  private static void walk() {
    Edge.range("Promise 7: BEYOND, no other THROWER than the ten", 0, 9, "0..9: thrower(0, #)", "walk(#, 15)");
    Edge.range("Promise 7: BEYOND, CELLS 0 to 23", 0, 23, "thrower(0, 7)", "walk(0, #)");
    Edge.holds("Promise 7: BEYOND, no THROWERS", "walk(0, 0) = BEYOND", "walk(-1, 5) = BEYOND");
    Edge.holds("Promise 7: where it was", "thrower(0, 0)", "walk(0, 23) = 0", "walk(0, 0) = 23", "of(0, 1) = 0");
    Edge.holds("Promise 7: STATE, another one is there", "thrower(0, 0)", "thrower(0, 23)", "walk(0, 23) = STATE",
        "walk(1, 0) = STATE", "of(0, 1) = 0", "of(1, 1) = 23");
    Edge.holds("Promise 7: STATE, another one is there, though ILL", "thrower(0, 3)", "thrower(0, 5)",
        "change(1, 7, 1)", "walk(0, 5) = STATE");
    Edge.holds("Promise 7: no STATE where he is himself", "thrower(0, 3)", "thrower(0, 5)", "walk(1, 5) = 5",
        "walk(0, 3) = 3");
    Edge.holds("Promise 7: no STATE where one was", "thrower(0, 3)", "thrower(0, 5)", "walk(0, 4) = 3",
        "walk(1, 3) = 5");
    Edge.holds("Promise 7: BEYOND ahead of STATE", "thrower(0, 3)", "thrower(0, 5)", "walk(2, 5) = BEYOND",
        "walk(-1, 5) = BEYOND", "walk(0, 24) = BEYOND");
    Edge.holds("Promise 7: ten may walk, too", "0..9: thrower(0, #)", "walk(9, 23) = 9", "walk(0, 9) = 0");
  }

  private static void toldRanges() {
    Edge.range("Promise 8: BEYOND, no other THROWER than the ten", 0, 9, "0..9: thrower(0, #)", "told(#, 0, 0, 0)");
    Edge.range("Promise 8: BEYOND, what 0 or 1", 0, 1, "thrower(0, 7)", "told(0, #, 0, 0)");
    Edge.range("Promise 8: BEYOND, a THROW is 0 or 1", 0, 1, "thrower(0, 7)", "told(0, 0, #, 0)");
    Edge.range("Promise 8: BEYOND, a CLOCK is 0 to 23", 0, 23, "thrower(0, 7)", "told(0, 1, 1, #)");
    Edge.holds("Promise 8: BEYOND, no THROWERS", "told(0, 0, 0, 0) = BEYOND", "told(-1, 1, 1, 12) = BEYOND");
  }

  /** REACH of NEAR 1 and 9, and of FAR 1 and 12, by day and by night. */
  private static void reach(int kind, String whose, int[] day, int[] atNight) {
    Edge.holds("Promise 8: REACH of " + whose, "thrower(" + kind + ", 7)", "change(0, 2, 1)", "change(0, 3, 1)",
        "told(0, 0, 0, 12) = " + day[0], "told(0, 0, 1, 12) = " + day[2], "told(0, 0, 0, 0) = " + atNight[0],
        "told(0, 0, 1, 0) = " + atNight[2], "change(0, 2, 9)", "change(0, 3, 12)", "told(0, 0, 0, 12) = " + day[1],
        "told(0, 0, 1, 12) = " + day[3], "told(0, 0, 0, 0) = " + atNight[1], "told(0, 0, 1, 0) = " + atNight[3]);
  }

  private static void reach() {
    int[] told = {1, 9, 1, 12};
    reach(0, "a THROWER: as told", told, told);
    int[] strong = {2, 10, 2, 13};
    reach(1, "a STRONG one: and 1", strong, strong);
    reach(2, "a SHAKY one: as the KIND above", told, told);
    int[] giant = {2, 10, 4, 15};
    reach(3, "a GIANT: and 2 if it is FAR", giant, giant);
    reach(4, "a BLIND one: as the KIND above", told, told);
    reach(5, "an OLD one: less 1 by NIGHT, 0 at least", told, new int[] {0, 8, 0, 11});
    int[] lad = {0, 4, 0, 6};
    reach(6, "a LAD: half of it, cut", lad, lad);
    Edge.holds("Promise 8: REACH of a LAD: half of it, cut, of odd and even", "thrower(6, 7)", "change(0, 2, 2)",
        "change(0, 3, 11)", "told(0, 0, 0, 12) = 1", "told(0, 0, 1, 12) = 5", "change(0, 2, 3)", "change(0, 3, 2)",
        "told(0, 0, 0, 12) = 1", "told(0, 0, 1, 12) = 1", "change(0, 2, 8)", "told(0, 0, 0, 12) = 4");
  }

  /** SURE of ODDS 0, 1, .. 12: NEAR by so much less, FAR by so much, and never below 0. */
  private static void sure(int kind, int clock, String whose, int nearLess, int farLess) {
    for (int odds = 0; odds <= 12; odds++) {
      Edge.holds("Promise 8: SURE of " + whose + " with ODDS " + odds, "thrower(" + kind + ", 7)",
          "change(0, 5, " + odds + ")", "told(0, 1, 0, " + clock + ") = " + Math.max(0, odds - nearLess),
          "told(0, 1, 1, " + clock + ") = " + Math.max(0, odds - farLess));
    }
  }

  private static void sure() {
    sure(0, 12, "a THROWER: ODDS, less 2, 0 at least, if it is FAR", 0, 2);
    sure(0, 0, "a THROWER by NIGHT, too", 0, 2);
    sure(1, 12, "a STRONG one: as the KIND above", 0, 2);
    sure(2, 12, "a SHAKY one: less 3, 0 at least", 3, 5);
    sure(2, 0, "a SHAKY one by NIGHT, too", 3, 5);
    sure(3, 12, "a GIANT: as the KIND above", 0, 2);
    sure(4, 12, "a BLIND one: as a SHAKY one", 3, 5);
    sure(4, 0, "a BLIND one by NIGHT: 0", 12, 12);
    sure(5, 0, "an OLD one: as the KIND above", 0, 2);
    Edge.holds("Promise 8: SURE of a LAD: 12", "thrower(6, 7)", "change(0, 5, 0)", "told(0, 1, 0, 12) = 12",
        "told(0, 1, 1, 0) = 12", "change(0, 5, 12)", "told(0, 1, 0, 0) = 12", "told(0, 1, 1, 12) = 12");
  }

  private static void night() {
    String[] old = {"thrower(5, 7)", "0..5: told(0, 0, 0, #) = 1", "6..17: told(0, 0, 0, #) = 2",
        "18..23: told(0, 0, 0, #) = 1"};
    Edge.holds("Promise 8: NIGHT is CLOCK 18 to 23 and 0 to 5, an OLD one's", old);
    String[] blind = {"thrower(4, 7)", "0..5: told(0, 1, 0, #) = 0", "6..17: told(0, 1, 0, #) = 5",
        "18..23: told(0, 1, 0, #) = 0"};
    Edge.holds("Promise 8: NIGHT is CLOCK 18 to 23 and 0 to 5, a BLIND one's", blind);
    Edge.holds("Promise 8: at a CLOCK, whatever HOUR is", "thrower(5, 7)", "hours(12)", "told(0, 0, 0, 0) = 1",
        "told(0, 0, 0, 12) = 2");
  }

  private static void fallsRanges() {
    Edge.range("Promise 9: BEYOND, no other THROWER than the ten", 0, 9, "0..9: thrower(0, #)",
        "falls(#, 0, 0, false)");
    Edge.range("Promise 9: BEYOND, a THROW is 0 or 1", 0, 1, "thrower(0, 7)", "falls(0, #, 0, true)");
    Edge.range("Promise 9: BEYOND, a CLOCK is 0 to 23", 0, 23, "thrower(0, 7)", "falls(0, 1, #, false)");
    Edge.holds("Promise 9: BEYOND, no THROWERS", "falls(0, 0, 0, true) = BEYOND", "falls(-1, 0, 0, false) = BEYOND");
  }

  private static void fallsShort() {
    Edge.holds("Promise 9: short of REACH 0: its own", "thrower(6, 7)", "change(0, 2, 1)", "falls(0, 0, 12, false) = 7",
        "falls(0, 0, 12, true) = 7", "change(0, 4, 0)", "falls(0, 0, 12, false) = 7", "falls(0, 0, 12, true) = 7");
    Edge.holds("Promise 9: short of REACH 1: its own", "thrower(0, 7)", "change(0, 2, 1)", "falls(0, 0, 12, false) = 8",
        "falls(0, 0, 12, true) = 7", "change(0, 4, 0)", "falls(0, 0, 12, false) = 6", "falls(0, 0, 12, true) = 7");
    Edge.holds("Promise 9: short of REACH 2: one CELL nearer", "thrower(0, 7)", "falls(0, 0, 12, false) = 9",
        "falls(0, 0, 12, true) = 8", "change(0, 4, 0)", "falls(0, 0, 12, false) = 5", "falls(0, 0, 12, true) = 6");
    Edge.holds("Promise 9: by NIGHT an OLD one's REACH 0", "thrower(5, 7)", "change(0, 2, 1)",
        "falls(0, 0, 5, false) = 7", "falls(0, 0, 5, true) = 7", "falls(0, 0, 6, false) = 8",
        "falls(0, 0, 6, true) = 7", "falls(0, 0, 17, false) = 8", "falls(0, 0, 18, false) = 7");
    Edge.holds("Promise 9: whatever SURE is", "thrower(0, 7)", "change(0, 5, 0)", "falls(0, 0, 0, false) = 9",
        "change(0, 5, 12)", "falls(0, 0, 0, true) = 8");
  }

  private static void fallsHeld() {
    Edge.holds("Promise 9: held within 23, none is", "thrower(0, 18)", "falls(0, 1, 0, false) = 23",
        "falls(0, 1, 0, true) = 22");
    Edge.holds("Promise 9: held within 23, each by itself: the told one", "thrower(0, 19)",
        "falls(0, 1, 0, false) = 23", "falls(0, 1, 0, true) = 23");
    Edge.holds("Promise 9: held within 23, both", "thrower(0, 20)", "falls(0, 1, 0, false) = 23",
        "falls(0, 1, 0, true) = 23");
    Edge.holds("Promise 9: held within 23, from 23", "thrower(0, 23)", "falls(0, 0, 0, false) = 23",
        "falls(0, 0, 0, true) = 23");
    Edge.holds("Promise 9: held within 23, a GIANT's 15 from 23", "thrower(3, 23)", "change(0, 3, 12)",
        "falls(0, 1, 0, false) = 23", "falls(0, 1, 0, true) = 23", "walk(0, 8)", "falls(0, 1, 0, false) = 23",
        "falls(0, 1, 0, true) = 22");
    Edge.holds("Promise 9: held within 0, none is", "thrower(0, 5)", "change(0, 4, 0)", "falls(0, 1, 0, false) = 0",
        "falls(0, 1, 0, true) = 1");
    Edge.holds("Promise 9: held within 0, each by itself: the told one", "thrower(0, 4)", "change(0, 4, 0)",
        "falls(0, 1, 0, false) = 0", "falls(0, 1, 0, true) = 0");
    Edge.holds("Promise 9: held within 0, both", "thrower(0, 3)", "change(0, 4, 0)", "falls(0, 1, 0, false) = 0",
        "falls(0, 1, 0, true) = 0");
    Edge.holds("Promise 9: held within 0, from 0", "thrower(0, 0)", "change(0, 4, 0)", "falls(0, 0, 0, false) = 0",
        "falls(0, 0, 0, true) = 0");
  }

  private static void nextRanges() {
    Edge.range("Promise 10: BEYOND, CELLS 0 to 23", 0, 23, "rule(0, 12)", "thrower(0, 0)", "thrower(0, 23)", "next(#)");
    Edge.holds("Promise 10: BEYOND, also without THROWERS", "next(24) = BEYOND", "next(-1) = BEYOND");
  }

  private static void nextNearest() {
    Edge.holds("Promise 10: with FETCH 0 but he who is there", "rule(1, 0)", "thrower(0, 7)", "next(7) = 0",
        "next(6) = NONE", "next(8) = NONE");
    Edge.holds("Promise 10: no farther than FETCH at first, 2", "thrower(0, 7)", "next(5) = 0", "next(9) = 0",
        "next(4) = NONE", "next(10) = NONE");
    Edge.holds("Promise 10: no farther than FETCH 9", "rule(1, 9)", "thrower(0, 11)", "next(2) = 0", "next(20) = 0",
        "next(1) = NONE", "next(21) = NONE");
    Edge.holds("Promise 10: of several nearest that on the least CELL", "thrower(0, 9)", "thrower(0, 7)", "next(8) = 1",
        "walk(1, 11)", "next(10) = 0");
    Edge.holds("Promise 10: the nearest, not the least", "rule(1, 9)", "thrower(0, 3)", "thrower(0, 9)", "next(7) = 1",
        "next(6) = 0", "next(5) = 0");
    Edge.holds("Promise 10: he who is there is nearest", "thrower(0, 6)", "thrower(0, 7)", "next(7) = 1",
        "next(6) = 0");
    Edge.holds("Promise 10: wherever he stands: on HOME, in a BROOK", "thrower(0, 23)", "thrower(0, 10)",
        "stuff(10, 1)", "next(22) = 0", "next(21) = 0", "next(11) = 1");
    Edge.holds("Promise 10: the tenth THROWER", "0..9: thrower(0, #)", "next(9) = 9", "next(11) = 9",
        "next(12) = NONE");
  }

  private static void nextNone() {
    Edge.holds("Promise 10: NONE, no THROWERS", "next(0) = NONE", "next(22) = NONE");
    Edge.holds("Promise 10: NONE, on HOME, though one is there", "thrower(0, 23)", "next(23) = NONE", "rule(0, 0)",
        "next(23) = 0");
    Edge.holds("Promise 10: NONE, in a BROOK, though one is there", "thrower(0, 4)", "stuff(4, 1)", "next(4) = NONE",
        "stuff(4, 2)", "next(4) = 0", "stuff(4, 3)", "next(4) = 0");
    Edge.holds("Promise 10: NONE, he is ILL", "thrower(0, 4)", "change(0, 7, 1)", "next(4) = NONE", "next(5) = NONE",
        "change(0, 7, 0)", "next(5) = 0");
    Edge.holds("Promise 10: another one where one is ILL", "thrower(0, 4)", "thrower(0, 6)", "change(0, 7, 1)",
        "next(4) = 1", "next(3) = NONE");
  }
}
