/** Edges of promises 16 to 21: odds, from now on. */
public final class EdgesOfOddsTest {
  public static void main(String[] args) {
    odds();
    oddsOfWays();
    oddsByClock();
    lost();
    likeliest();
    fewest();
    fewestWays();
    free();
    may();
    Edge.end();
  }

  private static void odds() {
    String[] land = {"thrower(0, 3)", "rule(0, 12)"};
    Edge.range("Promise 16: BEYOND, the CELL now, 0 to 23", 0, 23, land[0], land[1], "odds(#, 3, 5)");
    Edge.range("Promise 16: BEYOND, n 0 to 15", 0, 15, land[0], land[1], "odds(3, #, 5)");
    Edge.range("Promise 16: BEYOND, the CELL then, 0 to 23", 0, 23, land[0], land[1], "odds(3, 3, #)");
    Edge.holds("Promise 16: 0 HOURS: 1 part of 1 where it is", "0..23: odds(#, 0, #) = 1", "odds(0, 0, 1) = 0",
        "odds(23, 0, 22) = 0", "odds(22, 0, 23) = 0");
    Edge.holds("Promise 16: 15 HOURS: ALL parts", "0..23: odds(#, 15, #) = ALL", "odds(0, 15, 1) = 0");
    Edge.holds("Promise 16: 15 HOURS: a ROAD's CELL a HOUR", "0..22: stuff(#, 3)", "odds(8, 15, 23) = ALL",
        "odds(7, 15, 22) = ALL", "odds(7, 15, 23) = 0", "odds(0, 15, 15) = ALL");
    Edge.holds("Promise 16: 15 HOURS: parts of two ways", "rule(1, 0)", "thrower(0, 3)",
        "odds(3, 15, 5) = 10271347716390912", "odds(3, 15, 4) = 5135673858195456");
    Edge.holds("Promise 16: no THROWERS: it stays", "odds(5, 7, 5) = 35831808", "odds(5, 7, 6) = 0");
    Edge.holds("Promise 16: whether there are LETTERS or not", "odds(3, 1, 3) = 12", "letter(3)", "odds(3, 1, 3) = 12",
        "odds(4, 1, 4) = 12");
  }

  private static void oddsOfWays() {
    Edge.holds("Promise 16: SURE 0: all parts by the short way", "thrower(0, 3)", "change(0, 5, 0)",
        "odds(3, 1, 5) = 0", "odds(3, 1, 4) = 12");
    Edge.holds("Promise 16: SURE 1", "thrower(0, 3)", "change(0, 5, 1)", "odds(3, 1, 5) = 1", "odds(3, 1, 4) = 11");
    Edge.holds("Promise 16: SURE 11", "thrower(0, 3)", "change(0, 5, 11)", "odds(3, 1, 5) = 11", "odds(3, 1, 4) = 1");
    Edge.holds("Promise 16: SURE 12: all parts as told", "thrower(0, 3)", "change(0, 5, 12)", "odds(3, 1, 5) = 12",
        "odds(3, 1, 4) = 0");
    Edge.holds("Promise 16: both ways come to one CELL, held at 23", "thrower(0, 22)", "odds(22, 1, 23) = 12",
        "odds(22, 1, 22) = 0");
    Edge.holds("Promise 16: both ways come to one CELL, held at 0", "rule(0, 12)", "thrower(0, 1)", "change(0, 4, 0)",
        "odds(1, 1, 0) = 12", "odds(1, 1, 1) = 0");
    Edge.holds("Promise 16: both ways come to one CELL, of REACH 0", "thrower(5, 4)", "change(0, 2, 1)",
        "odds(4, 1, 4) = 12", "odds(4, 1, 5) = 0");
    Edge.holds("Promise 16: of REACH 1 the short way is its own CELL", "thrower(0, 4)", "change(0, 2, 1)",
        "odds(4, 1, 4) = 4", "odds(4, 1, 5) = 8");
    Edge.holds("Promise 16: parts from several CELLS come together", "rule(1, 0)", "thrower(0, 3)", "stuff(4, 3)",
        "odds(3, 2, 5) = 144", "odds(3, 3, 5) = 1728", "stuff(4, 0)", "thrower(6, 4)", "odds(3, 2, 5) = 144",
        "change(1, 2, 4)", "odds(3, 2, 5) = 96", "odds(3, 2, 6) = 48");
    Edge.holds("Promise 16: from a HEDGE with 6, else it stays", "stuff(5, 2)", "thrower(0, 4)", "odds(5, 1, 4) = 6",
        "odds(5, 1, 5) = 6", "stuff(5, 0)", "odds(5, 1, 4) = 12", "odds(5, 1, 5) = 0");
    Edge.holds("Promise 16: on HOME and in a BROOK it stays", "thrower(0, 23)", "thrower(0, 4)", "stuff(4, 1)",
        "odds(23, 2, 23) = 144", "odds(4, 2, 4) = 144");
    Edge.holds("Promise 16: he is ILL", "thrower(0, 4)", "change(0, 7, 1)", "odds(4, 1, 4) = 12", "odds(5, 1, 5) = 12");
  }

  private static void oddsByClock() {
    String[] old = {"thrower(5, 3)", "change(0, 2, 9)", "change(0, 5, 12)"};
    int[] hours = {5, 6, 17, 18, 23, 24, 29, 30};
    for (int hour : hours) {
      boolean isDay = hour % 24 >= 6 && hour % 24 <= 17;
      Edge.holds("Promise 16: a LETTER now, by the CLOCK of HOUR " + hour, old[0], old[1], old[2],
          "hours(" + hour + ")", "odds(3, 1, 12) = " + (isDay ? 12 : 0), "odds(3, 1, 11) = " + (isDay ? 0 : 12));
    }
    Edge.holds("Promise 16: the CLOCK goes on, from NIGHT to day", "thrower(5, 3)", "change(0, 2, 3)",
        "change(0, 5, 12)", "hours(5)", "odds(3, 1, 5) = 12", "odds(4, 2, 6) = 144", "odds(4, 2, 5) = 0");
    Edge.holds("Promise 16: the CLOCK goes on, from day to NIGHT", "thrower(5, 3)", "change(0, 2, 3)",
        "change(0, 5, 12)", "hours(17)", "odds(3, 1, 6) = 12", "odds(4, 2, 5) = 144", "odds(4, 2, 6) = 0");
    Edge.holds("Promise 16: the CLOCK goes round, and it is NIGHT still", "thrower(5, 3)", "change(0, 2, 3)",
        "change(0, 5, 12)", "hours(23)", "odds(3, 1, 5) = 12", "odds(4, 2, 5) = 144", "odds(3, 9, 6) = 5159780352",
        "odds(3, 7, 5) = 35831808");
  }

  private static void lost() {
    Edge.range("Promise 17: BEYOND, CELLS 0 to 23", 0, 23, "stuff(0, 1)", "lost(#, 3)");
    Edge.range("Promise 17: BEYOND, n 0 to 15", 0, 15, "stuff(0, 1)", "lost(0, #)");
    Edge.holds("Promise 17: 0 HOURS", "stuff(4, 1)", "lost(4, 0) = 1", "lost(5, 0) = 0");
    Edge.holds("Promise 17: 15 HOURS, on the first and the last CELL", "stuff(0, 1)", "stuff(23, 1)", "rule(0, 12)",
        "lost(0, 15) = ALL", "lost(23, 15) = ALL", "lost(1, 15) = 0", "lost(22, 15) = 0");
    Edge.holds("Promise 17: no BROOKS", "0..23: lost(#, 15) = 0");
    Edge.holds("Promise 17: in a BROOK, but HOME", "stuff(23, 1)", "stuff(22, 3)", "lost(23, 1) = 0", "lost(22, 1) = 0",
        "rule(0, 0)", "lost(23, 1) = 12");
    Edge.holds("Promise 17: in any BROOK, parts of several", "thrower(0, 3)", "stuff(4, 1)", "stuff(5, 1)",
        "lost(3, 1) = 12", "stuff(4, 0)", "lost(3, 1) = 8", "stuff(4, 1)", "stuff(5, 0)", "lost(3, 1) = 4");
  }

  private static void likeliest() {
    Edge.range("Promise 18: BEYOND, CELLS 0 to 23", 0, 23, "thrower(0, 3)", "likeliest(#, 3)");
    Edge.range("Promise 18: BEYOND, n 0 to 15", 0, 15, "thrower(0, 3)", "likeliest(3, #)");
    Edge.holds("Promise 18: 0 HOURS, and no THROWERS", "0..23: likeliest(#, 0) = #", "0..23: likeliest(#, 15) = #");
    Edge.holds("Promise 18: of several the least CELL", "thrower(0, 3)", "change(0, 5, 6)", "likeliest(3, 1) = 4",
        "change(0, 4, 0)", "likeliest(3, 1) = 1", "change(0, 5, 7)", "likeliest(3, 1) = 1", "change(0, 5, 5)",
        "likeliest(3, 1) = 2");
    Edge.holds("Promise 18: of several the least CELL, from a HEDGE", "stuff(5, 2)", "thrower(0, 4)",
        "likeliest(5, 1) = 4", "walk(0, 6)", "likeliest(5, 1) = 5");
    Edge.holds("Promise 18: parts of both ways together", "thrower(0, 22)", "change(0, 5, 6)", "likeliest(22, 1) = 23");
    Edge.holds("Promise 18: the last CELL, and the first", "thrower(0, 21)", "likeliest(21, 1) = 23", "rule(0, 12)",
        "thrower(0, 2)", "change(1, 4, 0)", "likeliest(2, 1) = 0");
  }

  /** Gates that are open by turns by NIGHT and by day: sixty HOURS from HOUR 7, sixty-one from HOUR 6. */
  private static String[] gates(String... last) {
    String[] gates = {
      "text(\"old at 0 near 3 far 1 odds 12;thrower at 3 near 3 odds 12 west;home 12\") = 3",
      "text(\"old at 2 near 3 far 1 odds 12;thrower at 4 near 2 far 7 odds 12 west\") = 2",
      "text(\"old at 5 near 3 far 1 odds 12;thrower at 8 near 3 far 3 odds 12 west\") = 2",
      "text(\"old at 7 near 3 far 1 odds 12;thrower at 9 near 2 far 11 odds 12 west\") = 2",
      "text(\"old at 10 near 3 far 1 odds 12;thrower at 13 near 3 far 10 odds 12 west\") = 2"
    };
    return Edge.rows(gates, last);
  }

  private static void fewest() {
    Edge.range("Promise 19: BEYOND, CELLS 0 to 23", 0, 23, "0..23: stuff(#, 3)", "fewest(#)");
    Edge.holds("Promise 19: 0 HOURS on HOME", "fewest(23) = 0", "rule(0, 0)", "fewest(0) = 0", "fewest(23) = NONE");
    Edge.holds("Promise 19: 0 HOURS on HOME, though in a BROOK", "stuff(23, 1)", "fewest(23) = 0");
    Edge.holds("Promise 19: NONE, no THROWERS", "0..22: fewest(#) = NONE");
    Edge.holds("Promise 19: NONE, in a BROOK", "0..22: stuff(#, 3)", "stuff(4, 1)", "fewest(4) = NONE",
        "fewest(0) = NONE", "fewest(5) = 18");
    Edge.holds("Promise 19: 60 HOURS are taken", gates("hours(7)", "fewest(3) = 60", "may(3, 59) = {10}",
        "may(3, 60) = {12}"));
    Edge.holds("Promise 19: NONE, it would be 61 HOURS", gates("hours(7)", "may(0, 1) = {3}", "fewest(0) = NONE",
        "may(0, 60) = {10}", "hours(1)", "fewest(3) = 60", "fewest(0) = 59"));
  }

  private static void fewestWays() {
    Edge.holds("Promise 19: any way of more than 0 twelfths, as told", "thrower(0, 21)", "rule(1, 0)",
        "change(0, 5, 0)", "fewest(21) = NONE", "change(0, 5, 1)", "fewest(21) = 1", "change(0, 5, 12)",
        "fewest(21) = 1");
    Edge.holds("Promise 19: any way of more than 0 twelfths, short", "thrower(0, 20)", "change(0, 2, 3)", "rule(0, 22)",
        "rule(1, 0)", "change(0, 5, 12)", "fewest(20) = NONE", "change(0, 5, 11)", "fewest(20) = 1", "change(0, 5, 0)",
        "fewest(20) = 1");
    Edge.holds("Promise 19: CHOICES as they are", "thrower(0, 18)", "rule(1, 0)", "fewest(18) = NONE",
        "change(0, 6, 1)", "fewest(18) = 1");
    Edge.holds("Promise 19: from a HEDGE in one HOUR", "stuff(22, 2)", "thrower(0, 23)", "fewest(22) = 1",
        "fewest(21) = 1", "fewest(20) = NONE");
  }

  private static void free() {
    Edge.range("Promise 20: BEYOND, CELLS 0 to 23", 0, 23, "0..23: stuff(#, 3)", "free(#)");
    Edge.holds("Promise 20: 0 HOURS on HOME", "free(23) = 0", "rule(0, 0)", "free(0) = 0", "free(23) = NONE");
    Edge.holds("Promise 20: NONE, no THROWERS", "0..22: free(#) = NONE");
    Edge.holds("Promise 20: 60 HOURS are taken", gates("hours(7)", "free(0) = 60"));
    Edge.holds("Promise 20: NONE, it would be 61 HOURS", gates("hours(6)", "free(0) = NONE", "hours(1)", "free(0) = 60",
        "hours(1)", "free(0) = 59"));
    Edge.holds("Promise 20: NEAR or FAR, whatever CHOICE is", "thrower(0, 18)", "rule(1, 0)", "fewest(18) = NONE",
        "free(18) = 1", "change(0, 6, 1)", "free(18) = 1", "change(0, 3, 4)", "change(0, 2, 5)", "fewest(18) = NONE",
        "free(18) = 1");
    Edge.holds("Promise 20: anew each time: NEAR in the last HOUR of NIGHT, FAR by day", "rule(0, 16)", "rule(1, 0)",
        "thrower(5, 10)", "change(0, 2, 1)", "change(0, 3, 6)", "hours(5)", "free(10) = 2", "fewest(10) = NONE",
        "change(0, 6, 1)", "fewest(10) = NONE", "free(10) = 2", "hours(1)", "free(10) = 1");
    Edge.holds("Promise 20: FAR of SURE 0 is no way, of SURE 1 it is", "rule(1, 0)", "thrower(0, 18)",
        "change(0, 5, 2)", "free(18) = NONE", "change(0, 5, 3)", "free(18) = 1");
    Edge.holds("Promise 20: an ILL one throws neither", "rule(1, 0)", "thrower(0, 18)", "change(0, 7, 1)",
        "free(18) = NONE");
  }

  private static void may() {
    Edge.range("Promise 21: BEYOND, CELLS 0 to 23", 0, 23, "thrower(0, 3)", "may(#, 3)");
    Edge.range("Promise 21: BEYOND, n 0 to 60", 0, 60, "thrower(0, 3)", "may(3, #)");
    Edge.holds("Promise 21: 0 HOURS: where it is, the first and the last bit", "may(0, 0) = 1", "may(23, 0) = 8388608",
        "0..23: may(#, 0) = {#}");
    Edge.holds("Promise 21: 60 HOURS, no THROWERS", "0..23: may(#, 60) = {#}");
    Edge.holds("Promise 21: a way of 0 twelfths is none", "thrower(0, 3)", "change(0, 5, 0)", "may(3, 1) = {4}",
        "change(0, 5, 1)", "may(3, 1) = {4, 5}", "change(0, 5, 11)", "may(3, 1) = {4, 5}", "change(0, 5, 12)",
        "may(3, 1) = {5}");
    Edge.holds("Promise 21: from a HEDGE both ways, ever after", "stuff(5, 2)", "thrower(6, 4)", "change(0, 2, 1)",
        "may(5, 1) = {4, 5}", "may(5, 60) = {4, 5}");
    Edge.holds("Promise 21: from each CELL on which it can be", "rule(1, 0)", "thrower(0, 3)", "may(3, 2) = {4, 5}",
        "thrower(0, 4)", "may(3, 2) = {5, 6}", "may(3, 60) = {5, 6}");
    Edge.holds("Promise 21: just n HOURS later, not sooner", "20..22: stuff(#, 3)", "may(20, 2) = {22}",
        "may(20, 3) = {23}", "may(20, 60) = {23}");
    Edge.holds("Promise 21: by the CLOCK of each HOUR", "thrower(5, 3)", "change(0, 5, 12)", "change(0, 2, 3)",
        "may(3, 5) = {5}", "may(3, 6) = {3}", "may(3, 7) = {6}", "may(3, 60) = {6}");
  }
}
