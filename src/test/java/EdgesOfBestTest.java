/** Edges of promises 22 to 29: the best throws. */
public final class EdgesOfBestTest {
  /** An OLD one who should throw NEAR in the last HOUR of the NIGHT, to his own CELL, and FAR by day, HOME. */
  private static final String[] WAITS = {"rule(0, 16)", "rule(1, 0)", "thrower(5, 10)", "change(0, 2, 1)",
      "change(0, 3, 6)", "hours(5)"};
  /** From 13 a LAD throws to a ROAD of nine CELLS: ten HOURS in all. */
  private static final String[] TEN_HOURS = {"rule(1, 0)", "14..22: stuff(#, 3)", "thrower(6, 3)", "thrower(6, 13)"};

  public static void main(String[] args) {
    best();
    choose();
    chooseState();
    plan();
    planOfEight();
    set();
    missed();
    stand();
    fetchFor();
    copies();
    Edge.end();
  }

  private static void best() {
    Edge.range("Promise 22: BEYOND, CELLS 0 to 23", 0, 23, "thrower(0, 21)", "best(#, 3)");
    Edge.range("Promise 22: BEYOND, n 0 to 15", 0, 15, "thrower(0, 21)", "best(21, #)");
    Edge.holds("Promise 22: 0 HOURS: HOME or not", "best(23, 0) = 1", "0..22: best(#, 0) = 0", "rule(0, 0)",
        "best(0, 0) = 1", "best(23, 0) = 0");
    Edge.holds("Promise 22: 15 HOURS: ALL or none, no THROWERS", "best(23, 15) = ALL", "0..22: best(#, 15) = 0");
    Edge.holds("Promise 22: 15 HOURS: a ROAD's CELL a HOUR", "0..22: stuff(#, 3)", "best(8, 15) = ALL",
        "best(7, 15) = 0");
    Edge.holds("Promise 22: from the first CELL and from the last", "rule(0, 1)", "stuff(0, 3)", "best(0, 1) = 12",
        "best(0, 15) = ALL", "rule(0, 22)", "stuff(23, 3)", "best(23, 1) = 12", "best(23, 15) = ALL");
    Edge.holds("Promise 22: as he likes, whatever CHOICE is", "rule(1, 0)", "thrower(0, 18)", "best(18, 1) = 6",
        "change(0, 6, 1)", "best(18, 1) = 6", "change(0, 2, 5)", "best(18, 1) = 8");
    Edge.holds("Promise 22: anew each time", Edge.rows(WAITS, "best(10, 1) = 0", "best(10, 2) = 72", "change(0, 6, 1)",
        "best(10, 2) = 72"));
    Edge.holds("Promise 22: an ILL one throws neither", "thrower(0, 21)", "change(0, 7, 1)", "best(21, 15) = 0");
    Edge.holds("Promise 22: SURE 0 and 12", "rule(1, 0)", "thrower(0, 21)", "change(0, 5, 0)", "change(0, 3, 2)",
        "best(21, 1) = 0", "change(0, 5, 12)", "best(21, 1) = 12");
    Edge.holds("Promise 22: to HOME in a BROOK, too; not out of another", "stuff(23, 1)", "stuff(22, 3)",
        "best(22, 1) = 12", "best(23, 1) = 12", "stuff(22, 1)", "best(22, 15) = 0");
  }

  private static void choose() {
    Edge.range("Promise 23: BEYOND, no other THROWER than the ten", 0, 9, "0..9: thrower(0, #)", "choose(#, 3)");
    Edge.range("Promise 23: BEYOND, n 1 to 15", 1, 15, "thrower(0, 4)", "choose(0, #)");
    Edge.holds("Promise 23: BEYOND, no THROWERS", "choose(0, 1) = BEYOND", "choose(-1, 1) = BEYOND");
    Edge.holds("Promise 23: of two that do the lesser: it never comes HOME", "thrower(0, 4)", "change(0, 6, 1)",
        "choose(0, 1) = 0", "choose(0, 15) = 0");
    Edge.holds("Promise 23: of two that do the lesser: as many parts", "rule(1, 0)", "thrower(0, 19)",
        "change(0, 2, 4)", "change(0, 3, 4)", "choose(0, 1) = 0", "thrower(6, 20)", "change(1, 2, 6)",
        "change(1, 3, 7)", "choose(1, 1) = 0");
    Edge.holds("Promise 23: FAR with more parts, NEAR with more", "rule(1, 0)", "thrower(0, 18)", "choose(0, 1) = 1",
        "change(0, 2, 5)", "choose(0, 1) = 0", "change(0, 2, 2)", "change(0, 5, 2)", "choose(0, 1) = 0",
        "change(0, 5, 3)", "choose(0, 1) = 1");
    Edge.holds("Promise 23: now, by the CLOCK, and n being left", Edge.rows(WAITS, "choose(0, 1) = 0",
        "choose(0, 2) = 0", "hours(1)", "choose(0, 1) = 1", "choose(0, 15) = 1"));
    Edge.holds("Promise 23: now, in the last HOUR of the day and the first of the NIGHT", "thrower(5, 20)",
        "change(0, 2, 3)", "change(0, 3, 4)", "change(0, 5, 12)", "stuff(22, 1)", "hours(17)", "choose(0, 1) = 0",
        "hours(1)", "choose(0, 1) = 1");
    Edge.holds("Promise 23: n HOURS are enough, or one too few", "rule(1, 0)", "thrower(0, 4)", "change(0, 5, 12)",
        "9..22: stuff(#, 3)", "choose(0, 13) = 0", "choose(0, 14) = 0", "choose(0, 15) = 1");
  }

  private static void chooseState() {
    Edge.holds("Promise 23: STATE, he is ILL", "thrower(0, 4)", "change(0, 7, 1)", "choose(0, 1) = STATE",
        "choose(0, 15) = STATE", "change(0, 7, 0)", "choose(0, 1) = 0");
    Edge.holds("Promise 23: STATE, on HOME", "thrower(0, 23)", "choose(0, 1) = STATE", "rule(0, 22)",
        "choose(0, 1) = 0");
    Edge.holds("Promise 23: STATE, in a BROOK", "thrower(0, 4)", "stuff(4, 1)", "choose(0, 1) = STATE", "stuff(4, 2)",
        "choose(0, 1) = 0", "stuff(4, 3)", "choose(0, 1) = 0");
    Edge.holds("Promise 23: BEYOND ahead of STATE", "thrower(0, 23)", "choose(0, 0) = BEYOND", "choose(0, 16) = BEYOND",
        "choose(1, 1) = BEYOND", "choose(-1, 1) = BEYOND", "choose(0, 1) = STATE");
  }

  private static void plan() {
    Edge.range("Promise 24: BEYOND, CELLS 0 to 23", 0, 23, "thrower(0, 21)", "plan(#, 3)");
    Edge.range("Promise 24: BEYOND, n 1 to 8", 1, 8, "thrower(0, 21)", "plan(21, #)");
    Edge.holds("Promise 24: no THROWERS: the empty set", "0..23: plan(#, 8) = {}");
    Edge.holds("Promise 24: the least set of those that do", "thrower(0, 4)", "thrower(0, 9)", "set(3)",
        "plan(4, 8) = {}", "plan(23, 1) = {}");
    Edge.holds("Promise 24: kept all the time", Edge.rows(WAITS, "plan(10, 2) = {}", "set(1)", "plan(10, 2) = {}",
        "hours(1)", "plan(10, 2) = {0}"));
    Edge.holds("Promise 24: BEYOND ahead of SIZE", "0..8: thrower(0, #)", "plan(24, 1) = BEYOND",
        "plan(-1, 1) = BEYOND", "plan(0, 0) = BEYOND", "plan(0, 9) = BEYOND", "plan(0, 1) = SIZE");
    Edge.holds("Promise 24: SIZE, nine THROWERS, and ten", "0..7: thrower(0, #)", "plan(0, 1) = 0", "thrower(0, 8)",
        "plan(0, 1) = SIZE", "thrower(0, 9)", "plan(0, 1) = SIZE");
    Edge.holds("Promise 24: SIZE, ILL ones, too", "0..8: thrower(0, #)", "0..8: change(#, 7, 1)", "plan(0, 8) = SIZE");
  }

  private static void planOfEight() {
    String[] eight = {"rule(1, 0)", "thrower(0, 0)", "thrower(0, 3)", "thrower(0, 6)", "thrower(0, 9)",
        "thrower(0, 12)", "thrower(0, 15)", "thrower(0, 18)", "thrower(0, 21)", "0..7: change(#, 2, 1)",
        "0..7: change(#, 3, 3)", "0..7: change(#, 5, 12)"};
    Edge.holds("Promise 24: eight THROWERS and 8 HOURS, all FAR", Edge.rows(eight,
        "plan(0, 8) = {0, 1, 2, 3, 4, 5, 6, 7}", "plan(3, 7) = {1, 2, 3, 4, 5, 6, 7}", "plan(21, 1) = {7}"));
    Edge.holds("Promise 24: one HOUR too few: none does", Edge.rows(eight, "plan(0, 7) = {}"));
    Edge.holds("Promise 24: an ILL one's bit is 0", Edge.rows(eight, "change(0, 7, 1)",
        "plan(3, 7) = {1, 2, 3, 4, 5, 6, 7}", "change(7, 7, 1)", "plan(3, 7) = {}"));
  }

  private static void set() {
    Edge.range("Promise 25: BEYOND, no THROWERS: but the empty set", 0, 0, "set(#)");
    Edge.range("Promise 25: BEYOND, a bit of one THROWER", 0, 1, "thrower(0, 4)", "set(#)");
    Edge.range("Promise 25: BEYOND, bits of three THROWERS", 0, 7, "0..2: thrower(0, #)", "set(#)");
    Edge.range("Promise 25: BEYOND, bits of ten THROWERS", 0, 1023, "0..9: thrower(0, #)", "set(#)");
    Edge.holds("Promise 25: how many are changed: all, none", "0..9: thrower(0, #)", "set(1023) = 10", "set(1023) = 0",
        "set(0) = 10", "set(0) = 0", "count(0) = 0");
    Edge.holds("Promise 25: how many are changed: the first, the last", "0..9: thrower(0, #)", "set(1) = 1",
        "of(0, 6) = 1", "1..9: of(#, 6) = 0", "set(512) = 2", "0..8: of(#, 6) = 0", "of(9, 6) = 1");
    Edge.holds("Promise 25: ILL ones, too", "thrower(0, 4)", "change(0, 7, 1)", "set(1) = 1", "of(0, 6) = 1");
    Edge.holds("Promise 25: a refused set leaves them", "0..2: thrower(0, #)", "set(5) = 2", "set(8) = BEYOND",
        "set(10) = BEYOND", "set(-1) = BEYOND", "of(0, 6) = 1", "of(1, 6) = 0", "of(2, 6) = 1");
  }

  private static void missed() {
    Edge.range("Promise 26: BEYOND, CELLS 0 to 23", 0, 23, "thrower(0, 21)", "missed(#, 3)");
    Edge.range("Promise 26: BEYOND, n 1 to 10", 1, 10, "thrower(0, 21)", "missed(21, #)");
    Edge.holds("Promise 26: NONE, no THROWERS", "missed(0, 1) = NONE", "missed(23, 10) = NONE");
    Edge.holds("Promise 26: NONE, all are ILL", "0..9: thrower(0, #)", "0..9: change(#, 7, 1)", "missed(0, 10) = NONE",
        "change(9, 7, 0)", "missed(0, 10) = 9");
    Edge.holds("Promise 26: BEYOND ahead of NONE", "missed(24, 1) = BEYOND", "missed(-1, 1) = BEYOND",
        "missed(0, 0) = BEYOND", "missed(0, 11) = BEYOND");
    Edge.holds("Promise 26: of several the least number, not ILL", "thrower(0, 3)", "thrower(0, 2)", "thrower(0, 1)",
        "missed(23, 1) = 0", "change(0, 7, 1)", "missed(23, 1) = 1");
    Edge.holds("Promise 26: ten HOURS are enough", Edge.rows(TEN_HOURS, "missed(13, 10) = 1"));
    Edge.holds("Promise 26: nine are not: none is left in any case", Edge.rows(TEN_HOURS, "missed(13, 9) = 0"));
    Edge.holds("Promise 26: CHOICES as they are", "rule(1, 0)", "thrower(0, 3)", "thrower(0, 18)", "missed(18, 1) = 0",
        "change(1, 6, 1)", "missed(18, 1) = 1");
    Edge.holds("Promise 26: the fewest parts are left, where one is a hindrance", "thrower(6, 21)", "change(0, 2, 1)",
        "thrower(0, 23)", "missed(21, 1) = 1", "missed(22, 1) = 1", "walk(1, 0)", "stuff(22, 3)", "missed(22, 1) = 1");
  }

  private static void stand() {
    Edge.range("Promise 27: BEYOND, CELLS 0 to 23", 0, 23, "thrower(0, 21)", "stand(#, 3)");
    Edge.range("Promise 27: BEYOND, n 1 to 10", 1, 10, "thrower(0, 21)", "stand(21, #)");
    Edge.holds("Promise 27: FULL, there are ten", "0..8: thrower(0, #)", "stand(5, 1) = 9", "thrower(0, 9)",
        "stand(5, 1) = FULL", "0..9: change(#, 7, 1)", "stand(5, 1) = FULL", "count(1) = 10");
    Edge.holds("Promise 27: BEYOND ahead of FULL", "0..9: thrower(0, #)", "stand(24, 1) = BEYOND",
        "stand(-1, 1) = BEYOND", "stand(0, 0) = BEYOND", "stand(0, 11) = BEYOND", "stand(0, 1) = FULL");
    Edge.holds("Promise 27: of several the least CELL without a THROWER", "stand(23, 10) = 0", "thrower(0, 0)",
        "stand(23, 10) = 1", "change(0, 7, 1)", "stand(23, 10) = 1", "thrower(0, 1)", "stand(23, 10) = 2");
    Edge.holds("Promise 27: on HOME, the last CELL", "stand(21, 1) = 23");
    Edge.holds("Promise 27: on the last CELL but HOME, with FETCH 9", "rule(1, 9)", "stand(22, 1) = 22",
        "stand(14, 1) = 23", "stand(13, 1) = 0", "stand(22, 10) = 22");
    Edge.holds("Promise 27: on HOME, the first CELL", "rule(0, 0)", "thrower(6, 1)", "change(0, 7, 1)",
        "stand(2, 1) = 0");
    Edge.holds("Promise 27: not where an ILL one is", "thrower(0, 23)", "change(0, 7, 1)", "rule(1, 0)",
        "stand(21, 1) = 21", "walk(0, 21)", "stand(21, 1) = 0");
    Edge.holds("Promise 27: all as at first: NEAR 2, EAST, ODDS 8, CHOICE NEAR", "rule(1, 0)", "stand(21, 1) = 21",
        "stand(20, 1) = 0", "stand(18, 1) = 0", "rule(0, 3)", "stand(5, 1) = 0", "stand(1, 1) = 1");
    Edge.holds("Promise 27: as many HOURS as are needed, and one fewer", "rule(1, 0)", "13..22: stuff(#, 3)",
        "stand(12, 10) = 12", "stand(12, 9) = 0");
  }

  private static void fetchFor() {
    Edge.range("Promise 28: BEYOND, CELLS 0 to 23", 0, 23, "thrower(0, 21)", "fetchFor(#, 3)");
    Edge.range("Promise 28: BEYOND, n 1 to 10", 1, 10, "thrower(0, 21)", "fetchFor(21, #)");
    Edge.holds("Promise 28: no THROWERS: the least", "0..23: fetchFor(#, 10) = 0");
    Edge.holds("Promise 28: the least FETCH, 0", "thrower(0, 22)", "fetchFor(22, 1) = 0", "fetchFor(23, 10) = 0");
    Edge.holds("Promise 28: the least FETCH, 1 to 9", "thrower(0, 23)", "14..22: fetchFor(#, 1)", "fetchFor(22, 1) = 1",
        "fetchFor(15, 1) = 8", "fetchFor(14, 1) = 9");
    Edge.holds("Promise 28: FETCH 10 would do, but is none", "thrower(0, 23)", "fetchFor(13, 1) = 0",
        "fetchFor(13, 10) = 0");
    Edge.holds("Promise 28: whatever FETCH is, and it stays", "thrower(0, 23)", "rule(1, 9)", "fetchFor(20, 1) = 3",
        "rule(1, 0) = 9", "fetchFor(20, 1) = 3", "rule(1, 0) = 0");
    Edge.holds("Promise 28: more can be worse", "thrower(0, 23)", "thrower(6, 17)", "stuff(17, 1)",
        "fetchFor(20, 1) = 0", "walk(1, 16)", "fetchFor(20, 1) = 3");
    Edge.holds("Promise 28: ten HOURS, and fewer", "12..20: stuff(#, 3)", "thrower(0, 23)", "fetchFor(12, 10) = 2",
        "fetchFor(12, 9) = 3", "fetchFor(12, 3) = 9", "fetchFor(12, 2) = 0");
  }

  private static void copies() {
    Edge.range("Promise 29: BEYOND, CELLS 0 to 23", 0, 23, "thrower(0, 21)", "copies(#, 3)");
    Edge.range("Promise 29: BEYOND, n 0 to 7", 0, 7, "thrower(0, 21)", "copies(21, #)");
    Edge.holds("Promise 29: 0 HOURS: HOME or not", "copies(23, 0) = 1", "0..22: copies(#, 0) = 0");
    Edge.holds("Promise 29: 7 HOURS: all or none of 12 to the 14", "copies(23, 7) = 1283918464548864",
        "0..22: copies(#, 7) = 0");
    Edge.holds("Promise 29: one or both: 1 part, 11 parts", "rule(1, 0)", "thrower(0, 21)", "change(0, 5, 1)",
        "copies(21, 1) = 23", "change(0, 5, 11)", "copies(21, 1) = 143");
    Edge.holds("Promise 29: 7 HOURS: 8 of 12", "rule(1, 0)", "thrower(0, 21)", "copies(21, 7) = 1141260857376768");
  }
}
