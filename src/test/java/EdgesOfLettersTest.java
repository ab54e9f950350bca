/** Edges of promises 11 to 15: letters, hours by draws. */
public final class EdgesOfLettersTest {
  /** By rests by 12 of the draw behind it: a z, and what z is then. */
  private static final int[] Z = {0, 7, 1, 18, 10, 2, 11, 3, 5, 22, 6, 8};
  private static final int[] THEN = {12345, -865315532, 1103527590, -1611549725, -1849737093, -2087924461, -746221848,
      -984409216, 1222621274, -1492456041, -1968830777, 238199713};

  public static void main(String[] args) {
    letter();
    where();
    take();
    hoursRanges();
    hoursToTheLast();
    stays();
    fetched();
    hedge();
    road();
    sureAndDraws();
    zGoesRound();
    thanks();
    clockGoesRound();
    cameHome();
    letters();
    Edge.end();
  }

  private static void letter() {
    Edge.range("Promise 11: BEYOND, CELLS 0 to 23", 0, 23, "letter(#)");
    Edge.holds("Promise 11: its number, LETTERS 0, 1, .. at most 12", "0..11: letter(#) = #", "count(2) = 12",
        "letter(12) = FULL", "letter(0) = FULL", "letter(23) = FULL", "count(2) = 12");
    Edge.holds("Promise 11: BEYOND ahead of FULL", "0..11: letter(#)", "letter(24) = BEYOND", "letter(-1) = BEYOND",
        "letter(MIN) = BEYOND", "letter(MAX) = BEYOND", "letter(3) = FULL");
    Edge.holds("Promise 11: several on a CELL, on HOME, in a BROOK", "stuff(3, 1)", "letter(3) = 0", "letter(3) = 1",
        "letter(23) = 2", "letter(23) = 3", "where(1) = 3", "where(3) = 23");
    Edge.holds("Promise 11: room again where one was taken out", "0..11: letter(#)", "take(0) = 0", "letter(20) = 11",
        "where(11) = 20", "letter(20) = FULL");
  }

  private static void where() {
    Edge.range("Promise 12: BEYOND, no other LETTER than the one", 0, 0, "letter(5)", "where(#)");
    Edge.range("Promise 12: BEYOND, no other LETTER than the twelve", 0, 11, "0..11: letter(#)", "where(#)");
    Edge.holds("Promise 12: BEYOND, no LETTERS", "where(0) = BEYOND", "where(-1) = BEYOND", "where(11) = BEYOND");
    Edge.holds("Promise 12: the first and the last CELL", "letter(0)", "letter(23)", "where(0) = 0", "where(1) = 23");
  }

  private static void take() {
    Edge.range("Promise 13: BEYOND, no other LETTER than the one", 0, 0, "letter(5)", "take(#)");
    Edge.range("Promise 13: BEYOND, no other LETTER than the twelve", 0, 11, "0..11: letter(#)", "take(#)");
    Edge.holds("Promise 13: BEYOND, no LETTERS", "take(0) = BEYOND", "take(-1) = BEYOND");
    Edge.holds("Promise 13: BEYOND, no more LETTERS", "letter(5)", "take(0) = 5", "take(0) = BEYOND",
        "where(0) = BEYOND", "count(2) = 0");
    Edge.holds("Promise 13: those behind the first get numbers one less", "0..11: letter(#)", "take(0) = 0",
        "where(0) = 1", "where(5) = 6", "where(10) = 11", "where(11) = BEYOND", "count(2) = 11");
    Edge.holds("Promise 13: those ahead of one keep theirs", "0..11: letter(#)", "take(6) = 6", "where(5) = 5",
        "where(6) = 7", "where(10) = 11", "where(11) = BEYOND");
    Edge.holds("Promise 13: none is behind the last", "0..11: letter(#)", "take(11) = 11", "where(0) = 0",
        "where(10) = 10", "where(11) = BEYOND");
  }

  private static void hoursRanges() {
    Edge.range("Promise 14: BEYOND, n 1 to 48", 1, 48, "thrower(0, 3)", "letter(3)", "hours(#)");
    Edge.holds("Promise 14: n HOURS go, the fewest", "hours(1) = 0", "count(0) = 1", "hours(1) = 0", "count(0) = 2");
    Edge.holds("Promise 14: n HOURS go, the most", "hours(48) = 0", "count(0) = 48");
    Edge.holds("Promise 14: no LETTERS, no THROWERS", "hours(48) = 0", "count(6) = 1", "count(3) = 0");
    Edge.holds("Promise 14: as many LETTERS as there may be", "0..22: stuff(#, 3)", "0..11: letter(#)", "hours(12) = 1",
        "hours(10) = 10", "hours(1) = 1", "hours(48) = 0", "letters(0) = 12");
  }

  private static void hoursToTheLast() {
    Edge.holds("Promise 14: HOUR 9999 is taken, from 9951 by 48", "207 * hours(48)", "hours(15)", "count(0) = 9951",
        "hours(48) = 0", "count(0) = 9999");
    Edge.holds("Promise 14: STATE, HOUR would be 10000, from 9952 by 48", "207 * hours(48)", "hours(16)",
        "count(0) = 9952", "hours(48) = STATE", "count(0) = 9952", "hours(47) = 0", "count(0) = 9999");
    Edge.holds("Promise 14: STATE, HOUR is 9999", "208 * hours(48)", "hours(15)", "hours(1) = STATE",
        "hours(48) = STATE", "count(0) = 9999");
    Edge.holds("Promise 14: HOUR 9999 is taken, from 9998 by 1", "208 * hours(48)", "hours(14)", "hours(2) = STATE",
        "count(0) = 9998", "hours(1) = 0", "count(0) = 9999");
    Edge.holds("Promise 14: BEYOND ahead of STATE", "208 * hours(48)", "hours(15)", "hours(0) = BEYOND",
        "hours(49) = BEYOND", "hours(-1) = BEYOND", "hours(MAX) = BEYOND", "hours(MIN) = BEYOND");
    Edge.holds("Promise 14: STATE, and no LETTER goes", "208 * hours(48)", "stuff(5, 3)", "letter(5)",
        "hours(16) = STATE", "where(0) = 5", "hours(1) = 0", "where(0) = 6");
    Edge.holds("Promise 14: asked beyond HOUR 9999, the CLOCK goes on", "208 * hours(48)", "hours(15)", "thrower(5, 3)",
        "change(0, 5, 12)", "odds(3, 1, 5) = 12", "may(3, 3) = {5}", "may(3, 5) = {4}");
  }

  private static void stays() {
    Edge.holds("Promise 14: on HOME it stays, though one is there", "thrower(0, 23)", "letter(23)", "hours(1) = 0",
        "where(0) = 23", "count(6) = 1", "count(3) = 0");
    Edge.holds("Promise 14: in a BROOK it stays, though one is there", "thrower(0, 4)", "stuff(4, 1)", "letter(4)",
        "hours(1) = 0", "where(0) = 4", "count(6) = 1", "count(3) = 0");
    Edge.holds("Promise 14: in a BROOK it stays, though one is beside it", "thrower(0, 5)", "stuff(4, 1)", "letter(4)",
        "hours(1)", "where(0) = 4");
    Edge.holds("Promise 14: on GRASS it stays where nobody is near", "letter(0)", "letter(22)", "thrower(0, 11)",
        "letter(8)", "letter(14)", "hours(1) = 0", "where(0) = 0", "where(1) = 22", "where(2) = 8", "where(3) = 14",
        "count(6) = 1");
    Edge.holds("Promise 14: in a HEDGE it stays where nobody is near, without a draw", "stuff(4, 2)", "letter(4)",
        "hours(1) = 0", "where(0) = 4", "count(6) = 1");
    Edge.holds("Promise 14: an ILL one neither throws nor has it fetched", "thrower(0, 4)", "change(0, 7, 1)",
        "letter(4)", "letter(5)", "hours(1)", "where(0) = 4", "where(1) = 5", "count(3) = 0", "count(6) = 1");
  }

  private static void fetched() {
    Edge.holds("Promise 14: fetched from FETCH away, without a draw", "thrower(0, 7)", "letter(5)", "letter(9)",
        "hours(1)", "where(0) = 7", "where(1) = 7", "count(6) = 1", "count(3) = 0");
    Edge.holds("Promise 14: not from one CELL farther", "thrower(0, 7)", "letter(4)", "letter(10)", "hours(1)",
        "where(0) = 4", "where(1) = 10");
    Edge.holds("Promise 14: with FETCH 0 not from beside him", "rule(1, 0)", "thrower(0, 7)", "letter(6)", "letter(8)",
        "hours(1)", "where(0) = 6", "where(1) = 8");
    Edge.holds("Promise 14: with FETCH 9 from 9 away", "rule(1, 9)", "thrower(0, 11)", "letter(2)", "letter(20)",
        "letter(1)", "letter(21)", "hours(1)", "where(0) = 11", "where(1) = 11", "where(2) = 1", "where(3) = 21");
    Edge.holds("Promise 14: of several nearest to that on the least CELL", "thrower(0, 9)", "thrower(0, 5)",
        "letter(7)", "hours(1)", "where(0) = 5");
    Edge.holds("Promise 14: to the nearest, past an ILL one on its CELL", "thrower(0, 4)", "thrower(0, 6)",
        "change(0, 7, 1)", "letter(4)", "hours(1)", "where(0) = 6");
  }

  private static void hedge() {
    for (int rest = 0; rest < 12; rest++) {
      Edge.holds("Promise 14: from a HEDGE with 6 twelfths, a rest of " + rest, "stuff(5, 2)", "thrower(0, 6)",
          "letter(5)", "seed(" + Z[rest] + ")", "hours(1)", "where(0) = " + (rest < 6 ? 6 : 5),
          "count(6) = " + THEN[rest], "count(3) = 0");
    }
    Edge.holds("Promise 14: thrown from a HEDGE by SURE", "stuff(5, 2)", "thrower(6, 5)", "letter(5)", "hours(1)",
        "where(0) = 6", "count(6) = 1", "count(3) = 1");
  }

  private static void road() {
    Edge.holds("Promise 14: on a ROAD one CELL nearer to HOME", "0..23: stuff(#, 3)", "rule(0, 12)", "letter(0)",
        "letter(11)", "letter(12)", "letter(13)", "letter(23)", "hours(1) = 2", "where(0) = 1", "where(1) = 12",
        "where(2) = 12", "where(3) = 12", "where(4) = 22", "count(6) = 1");
    Edge.holds("Promise 14: on a ROAD to HOME on the first CELL", "stuff(1, 3)", "rule(0, 0)", "letter(1)",
        "hours(1) = 1", "where(0) = 0");
    Edge.holds("Promise 14: on a ROAD it is fetched all the same", "stuff(5, 3)", "thrower(0, 3)", "letter(5)",
        "hours(1)", "where(0) = 3");
    Edge.holds("Promise 14: on a ROAD it is thrown all the same", "stuff(5, 3)", "thrower(6, 5)", "change(0, 4, 0)",
        "letter(5)", "hours(1)", "where(0) = 4", "count(3) = 1");
    Edge.holds("Promise 14: from a ROAD into a BROOK", "stuff(5, 3)", "stuff(6, 1)", "letter(5)", "hours(2)",
        "where(0) = 6", "letters(1) = 1");
  }

  private static void sure(int odds) {
    for (int rest = 0; rest < 12; rest++) {
      boolean isDrawn = odds > 0 && odds < 12;
      Edge.holds("Promise 14: SURE " + odds + " and a rest of " + rest, "thrower(0, 3)", "change(0, 5, " + odds + ")",
          "change(0, 2, 9)", "letter(3)", "seed(" + Z[rest] + ")", "hours(1)", "where(0) = " + (rest < odds ? 12 : 11),
          "count(6) = " + (isDrawn ? THEN[rest] : Z[rest]), "of(0, 8) = 1");
    }
  }

  private static void sureAndDraws() {
    for (int odds = 0; odds <= 12; odds++) {
      sure(odds);
    }
    Edge.holds("Promise 14: with SURE 0 the short one, a BLIND one's by NIGHT, no draw", "thrower(4, 3)",
        "change(0, 5, 12)", "letter(3)", "hours(1)", "where(0) = 4", "count(6) = 1");
    Edge.holds("Promise 14: a LAD's 12 twelfths, no draw", "thrower(6, 3)", "change(0, 5, 5)", "letter(3)", "hours(1)",
        "where(0) = 4", "count(6) = 1");
    Edge.holds("Promise 14: by CHOICE, SURE of FAR", "thrower(0, 3)", "change(0, 6, 1)", "change(0, 5, 2)", "letter(3)",
        "hours(1)", "where(0) = 7", "count(6) = 1");
    Edge.holds("Promise 14: with SURE 1 to 11 always a draw: both held at 23", "rule(0, 0)", "thrower(0, 23)",
        "change(0, 5, 1)", "letter(23)", "hours(1)", "where(0) = 23", "count(6) = 1103527590");
    Edge.holds("Promise 14: with SURE 1 to 11 always a draw: REACH 0", "thrower(5, 4)", "change(0, 2, 1)",
        "change(0, 5, 11)", "letter(4)", "hours(1)", "where(0) = 4", "count(6) = 1103527590", "of(0, 8) = 1");
    Edge.holds("Promise 14: by numbers each", "thrower(0, 3)", "thrower(0, 12)", "change(0, 2, 9)", "change(1, 2, 9)",
        "letter(12)", "letter(3)", "letter(12)", "hours(1)", "where(0) = 21", "where(1) = 11", "where(2) = 21",
        "count(6) = 662824084");
  }

  private static void zGoesRound() {
    String[] rows = {"thrower(0, 3)", "change(0, 2, 9)", "letter(3)"};
    z(rows, "MAX", 1043980748, 12);
    z(rows, "MIN", -2147471303, 11);
    z(rows, "-1", -1103502900, 12);
    z(rows, "0", 12345, 12);
    z(rows, "2", -2087924461, 12);
  }

  private static void z(String[] rows, String before, int then, int cell) {
    Edge.holds("Promise 14: a draw makes z an int, and gives z >>> 8, from " + before, rows[0], rows[1], rows[2],
        "seed(" + before + ") = 1", "hours(1)", "where(0) = " + cell, "count(6) = " + then);
  }

  private static void thanks() {
    Edge.holds("Promise 14: THANKS one more, wherever it comes to: its own CELL", "thrower(6, 4)", "change(0, 2, 1)",
        "letter(4)", "hours(48)", "of(0, 8) = 48", "where(0) = 4", "hours(1)", "of(0, 8) = 49");
    Edge.holds("Promise 14: THANKS one more, wherever it comes to: a BROOK", "thrower(6, 4)", "stuff(5, 1)",
        "letter(4)", "hours(48)", "of(0, 8) = 1", "where(0) = 5");
    Edge.holds("Promise 14: THANKS one more, wherever it comes to: HOME", "thrower(6, 22)", "letter(22)",
        "hours(48) = 1", "of(0, 8) = 1");
    Edge.holds("Promise 14: THANKS of twelve LETTERS", "thrower(6, 4)", "change(0, 2, 1)", "12 * letter(4)",
        "hours(48)", "of(0, 8) = 576", "count(3) = 576");
    Edge.holds("Promise 14: fetched is not thrown", "thrower(0, 4)", "letter(5)", "letter(2)", "hours(1)",
        "of(0, 8) = 0");
  }

  private static void clockGoesRound() {
    String[] before = {"thrower(5, 3)", "change(0, 2, 9)", "change(0, 5, 12)"};
    int[] clocks = {0, 5, 6, 17, 18, 23, 24, 29, 30, 47};
    for (int hour : clocks) {
      int clock = hour % 24;
      boolean isNight = clock >= 18 || clock <= 5;
      Edge.holds("Promise 14: REACH by the CLOCK of that HOUR, " + hour, before[0], before[1], before[2],
          hour == 0 ? "count(0) = 0" : "hours(" + hour + ")", "letter(3)", "hours(1)",
          "where(0) = " + (isNight ? 11 : 12));
    }
    Edge.holds("Promise 14: the CLOCK goes on within a call, from day to NIGHT", "thrower(5, 3)", "change(0, 2, 1)",
        "change(0, 5, 12)", "hours(17)", "letter(3)", "hours(1)", "where(0) = 4", "hours(1)", "where(0) = 3",
        "hours(11)", "where(0) = 3", "count(0) = 30", "of(0, 8) = 12", "hours(1)", "where(0) = 4");
    Edge.holds("Promise 14: the CLOCK goes on within a call, from NIGHT to day", "thrower(5, 3)", "change(0, 2, 3)",
        "change(0, 5, 12)", "rule(1, 0)", "thrower(6, 5)", "change(1, 4, 0)", "change(1, 2, 4)", "letter(3)",
        "hours(7) = 0", "where(0) = 6");
    Edge.holds("Promise 14: SURE by the CLOCK of that HOUR", "thrower(4, 3)", "change(0, 5, 12)", "rule(1, 9)",
        "hours(5)", "letter(3)", "hours(1)", "where(0) = 4", "count(6) = 1", "hours(1)", "where(0) = 3", "hours(1)",
        "where(0) = 5", "count(6) = 1103527590");
  }

  private static void cameHome() {
    Edge.holds("Promise 14: how many came HOME: none that was there", "letter(23)", "letter(23)", "hours(48) = 0",
        "letters(0) = 2");
    Edge.holds("Promise 14: how many came HOME: each once", "22..22: stuff(#, 3)", "3 * letter(22)", "hours(48) = 3",
        "hours(48) = 0");
    Edge.holds("Promise 14: how many came HOME: fetched", "thrower(0, 23)", "letter(21)", "letter(20)", "hours(1) = 1");
    Edge.holds("Promise 14: how many came HOME: thrown, told and short", "thrower(0, 20)", "change(0, 2, 9)",
        "4 * letter(20)", "hours(1) = 4");
    Edge.holds("Promise 14: how many came HOME: in a BROOK, too", "stuff(23, 1)", "stuff(22, 3)", "letter(22)",
        "hours(1) = 1");
    Edge.holds("Promise 14: how many came HOME: by these HOURS alone", "20..22: stuff(#, 3)", "20..22: letter(#)",
        "hours(1) = 1", "hours(1) = 1", "hours(1) = 1", "hours(1) = 0");
  }

  private static void letters() {
    Edge.range("Promise 15: BEYOND, what 0 to 2", 0, 2, "letters(#)");
    Edge.holds("Promise 15: no LETTERS", "0..2: letters(#) = 0");
    Edge.holds("Promise 15: twelve on HOME", "12 * letter(23)", "letters(0) = 12", "letters(1) = 0", "letters(2) = 0");
    Edge.holds("Promise 15: twelve in a BROOK", "stuff(0, 1)", "12 * letter(0)", "letters(0) = 0", "letters(1) = 12",
        "letters(2) = 0");
    Edge.holds("Promise 15: twelve elsewhere", "stuff(1, 2)", "stuff(2, 3)", "4 * letter(0)", "4 * letter(1)",
        "4 * letter(2)", "letters(0) = 0", "letters(1) = 0", "letters(2) = 12");
    Edge.holds("Promise 15: in a BROOK, but HOME", "stuff(23, 1)", "letter(23)", "letters(0) = 1", "letters(1) = 0",
        "rule(0, 0)", "letters(0) = 0", "letters(1) = 1");
    Edge.holds("Promise 15: as the land is now", "letter(4)", "letters(2) = 1", "stuff(4, 1)", "letters(1) = 1",
        "letters(2) = 0", "rule(0, 4)", "letters(0) = 1", "letters(1) = 0");
  }
}
