import java.util.ArrayList;
import java.util.List;

/** Edges of promises 30 to 34: stones found. */
public final class EdgesOfStonesTest {
  public static void main(String[] args) {
    whose();
    from();
    thief();
    gifts();
    seed();
    Edge.end();
  }

  private static void whose() {
    Edge.range("Promise 30: BEYOND, CELLS 0 to 23", 0, 23, "thrower(0, 3)", "whose(#, 3)");
    Edge.range("Promise 30: BEYOND, a CLOCK is 0 to 23", 0, 23, "thrower(0, 3)", "whose(5, #)");
    Edge.holds("Promise 30: no THROWERS", "0..23: whose(#, 0) = {}");
    Edge.holds("Promise 30: either THROW, told and short, whatever CHOICE is", "thrower(0, 3)",
        "0..3: whose(#, 0) = {}", "whose(4, 0) = {0}", "whose(5, 0) = {0}", "whose(6, 0) = {}", "whose(7, 0) = {0}",
        "whose(8, 0) = {0}", "9..23: whose(#, 0) = {}", "set(1)", "whose(4, 0) = {0}", "whose(5, 0) = {0}",
        "whose(7, 0) = {0}", "whose(8, 0) = {0}");
    Edge.holds("Promise 30: more than 0 twelfths: ODDS 0", "thrower(0, 3)", "change(0, 5, 0)", "whose(4, 0) = {0}",
        "whose(5, 0) = {}", "whose(7, 0) = {0}", "whose(8, 0) = {}");
    Edge.holds("Promise 30: more than 0 twelfths: ODDS 1", "thrower(0, 3)", "change(0, 5, 1)", "whose(4, 0) = {0}",
        "whose(5, 0) = {0}", "whose(8, 0) = {}");
    Edge.holds("Promise 30: more than 0 twelfths: ODDS 2 and 3", "thrower(0, 3)", "change(0, 5, 2)", "whose(8, 0) = {}",
        "change(0, 5, 3)", "whose(8, 0) = {0}");
    Edge.holds("Promise 30: more than 0 twelfths: ODDS 11", "thrower(0, 3)", "change(0, 5, 11)", "whose(4, 0) = {0}",
        "whose(5, 0) = {0}");
    Edge.holds("Promise 30: more than 0 twelfths: ODDS 12", "thrower(0, 3)", "change(0, 5, 12)", "whose(4, 0) = {}",
        "whose(5, 0) = {0}", "whose(7, 0) = {0}", "whose(8, 0) = {0}");
    Edge.holds("Promise 30: ILL or not", "thrower(0, 3)", "thrower(0, 4)", "change(0, 7, 1)", "whose(5, 0) = {0, 1}");
    Edge.holds("Promise 30: as a set of ten", "0..9: thrower(0, #)", "0..9: change(#, 2, 9)", "0..9: change(#, 3, 12)",
        "0..9: change(#, 5, 12)", "whose(9, 0) = {0}", "whose(18, 0) = {6, 7, 9}", "9..9: walk(#, 23)",
        "whose(23, 0) = {9}");
    Edge.holds("Promise 30: at a CLOCK, the edges of NIGHT", "thrower(5, 3)", "change(0, 5, 12)", "whose(5, 5) = {}",
        "whose(4, 5) = {0}", "whose(5, 6) = {0}", "whose(4, 6) = {}", "whose(5, 17) = {0}", "whose(5, 18) = {}",
        "whose(4, 23) = {0}", "whose(4, 0) = {0}");
    Edge.holds("Promise 30: held within 23 and 0", "thrower(0, 22)", "thrower(0, 1)", "change(1, 4, 0)",
        "whose(23, 0) = {0}", "whose(22, 0) = {}", "whose(0, 0) = {1}", "whose(1, 0) = {}");
    Edge.holds("Promise 30: its own CELL, of REACH 0 and 1", "thrower(6, 4)", "change(0, 2, 1)", "whose(4, 0) = {0}",
        "change(0, 2, 2)", "whose(4, 0) = {}", "change(0, 0, 0)", "change(0, 2, 1)", "whose(4, 0) = {0}");
    Edge.holds("Promise 30: from HOME and from a BROOK, too", "thrower(0, 3)", "rule(0, 3)", "whose(5, 0) = {0}",
        "rule(0, 23)", "stuff(3, 1)", "whose(5, 0) = {0}");
  }

  private static void from() {
    Edge.range("Promise 31: BEYOND, CELLS 0 to 23", 0, 23, "thrower(0, 3)", "from(#, 3)");
    Edge.range("Promise 31: BEYOND, n 0 to 20", 0, 20, "thrower(0, 3)", "from(3, #)");
    Edge.holds("Promise 31: 0 HOURS: where it is", "thrower(0, 3)", "0..23: from(#, 0) = {#}");
    Edge.holds("Promise 31: 20 HOURS, no THROWERS", "0..23: from(#, 20) = {#}");
    Edge.holds("Promise 31: 20 HOURS on a ROAD: from 3 to 23", "0..22: stuff(#, 3)", "from(23, 20) = 16777208",
        "from(22, 20) = {2}", "from(20, 20) = {0}", "from(19, 20) = {}");
    Edge.holds("Promise 31: from none", "thrower(0, 3)", "from(3, 1) = {1, 2, 4, 5}", "from(6, 2) = {6}", "stuff(6, 3)",
        "from(6, 1) = {}");
    Edge.holds("Promise 31: a way of 0 twelfths is none", "rule(1, 0)", "thrower(0, 3)", "change(0, 5, 0)",
        "from(5, 1) = {5}", "from(4, 1) = {3, 4}", "change(0, 5, 1)", "from(5, 1) = {3, 5}", "change(0, 5, 12)",
        "from(4, 1) = {4}");
    Edge.holds("Promise 31: begun now: the HOURS in their order", "rule(1, 0)", "thrower(5, 3)", "change(0, 5, 12)",
        "change(0, 2, 3)", "hours(5)", "thrower(5, 6)", "change(1, 5, 12)", "change(1, 2, 3)", "from(6, 1) = {}",
        "from(5, 1) = {3, 5}", "from(9, 2) = {9}", "from(8, 2) = {6, 8}", "hours(1)", "from(9, 2) = {3, 6, 9}",
        "from(8, 2) = {8}");
    Edge.holds("Promise 31: CHOICES as they are", "rule(1, 0)", "thrower(0, 3)", "from(8, 1) = {8}", "set(1)",
        "from(8, 1) = {3, 8}");
  }

  private static void thief() {
    Edge.range("Promise 32: BEYOND, CELLS 0 to 23", 0, 23, "thrower(0, 3)", "thief(#, 3)");
    Edge.range("Promise 32: BEYOND, n 1 to 20", 1, 20, "thrower(0, 3)", "thief(3, #)");
    Edge.holds("Promise 32: all, if it never can be; not HOME, nor its own", "thief(0, 20) = 8388606",
        "thief(22, 20) = 4194303", "thief(5, 1) = 8388575", "rule(0, 0)", "thief(23, 20) = 8388606",
        "thief(1, 20) = 16777212");
    Edge.holds("Promise 32: on HOME: none", "thief(23, 1) = {}", "thief(23, 20) = {}", "rule(0, 0)",
        "thief(0, 20) = {}");
    Edge.holds("Promise 32: in one HOUR: none is on the way", "stuff(22, 3)", "thief(22, 1) = {}",
        "thief(22, 20) = {}");
    Edge.holds("Promise 32: 20 HOURS are just enough", "3..22: stuff(#, 3)",
        "thief(3, 20) = {4, 5, 6, 7, 8, 9, 10, 11, 12, 13, 14, 15, 16, 17, 18, 19, 20, 21, 22}");
    Edge.holds("Promise 32: one HOUR too few: all", "3..22: stuff(#, 3)", "thief(3, 19) = 8388599");
    Edge.holds("Promise 32: of two ways none is enough", "rule(1, 0)", "thrower(0, 20)", "21..22: stuff(#, 3)",
        "change(0, 2, 2)", "thief(20, 3) = {22}", "thief(20, 2) = {22}", "rule(0, 22)", "thief(20, 2) = {}",
        "thief(20, 1) = {}");
    Edge.holds("Promise 32: one way of 0 twelfths: the other alone", "rule(1, 0)", "thrower(0, 20)",
        "21..22: stuff(#, 3)", "rule(0, 23)", "change(0, 5, 0)", "thief(20, 3) = {21, 22}", "thief(20, 2) = 7340031",
        "change(0, 5, 12)", "thief(20, 2) = {22}");
    Edge.holds("Promise 32: what comes back to its own CELL is not taken", "thrower(0, 22)", "change(0, 2, 1)",
        "thief(22, 20) = {}");
  }

  /** THROWERS with so many THANKS each, by LADS who throw to their own CELLS. */
  private static String[] thanks(String last, int... thanks) {
    List<String> rows = new ArrayList<>();
    rows.add("rule(1, 0)");
    for (int t = 0; t < thanks.length; t++) {
      rows.add("thrower(6, " + t + ")");
      rows.add("change(" + t + ", 2, 1)");
      if (thanks[t] > 0) {
        rows.add("letter(" + t + ")");
        rows.add("hours(" + thanks[t] + ")");
        rows.add("take(0)");
      }
      rows.add("of(" + t + ", 8) = " + thanks[t]);
    }
    rows.add(last);
    return rows.toArray(new String[0]);
  }

  private static void gifts() {
    Edge.holds("Promise 33: no THROWERS", "gifts() = 0");
    Edge.holds("Promise 33: one alone", thanks("gifts() = 0", 7));
    Edge.holds("Promise 33: nobody has THANKS", thanks("gifts() = 0", 0, 0, 0));
    Edge.holds("Promise 33: all have the mean", thanks("gifts() = 0", 3, 3, 3));
    Edge.holds("Promise 33: the mean is cut: one has more, none less", thanks("gifts() = 0", 3, 4));
    Edge.holds("Promise 33: the mean is cut to 0", thanks("gifts() = 0", 0, 0, 2));
    Edge.holds("Promise 33: the mean is cut: one has less, and one more", thanks("gifts() = 1", 2, 5, 3));
    Edge.holds("Promise 33: one gift evens two", thanks("gifts() = 1", 6, 0));
    Edge.holds("Promise 33: so much that the giver has the mean", thanks("gifts() = 3", 5, 5, 5, 1, 4));
    Edge.holds("Promise 33: so much that the taker has the mean", thanks("gifts() = 3", 0, 8, 0, 0));
    Edge.holds("Promise 33: the one with most to the one with least", thanks("gifts() = 2", 6, 0, 1, 5));
    Edge.holds("Promise 33: the one with most, not the first with more", thanks("gifts() = 1", 3, 4, 0));
    Edge.holds("Promise 33: what is given is gone", thanks("gifts() = 3", 5, 3, 0, 0));
    Edge.holds("Promise 33: ten THROWERS, nine gifts", thanks("gifts() = 9", 0, 0, 0, 0, 0, 0, 0, 0, 0, 48));
    Edge.holds("Promise 33: ILL ones, too", "rule(1, 0)", "thrower(6, 0)", "change(0, 2, 1)", "thrower(0, 1)",
        "letter(0)", "hours(2)", "change(0, 7, 1)", "change(1, 7, 1)", "gifts() = 1", "gifts() = 1", "of(0, 8) = 2",
        "of(1, 8) = 0");
  }

  private static void seed() {
    Edge.holds("Promise 34: z may be any int", "seed(MIN) = 1", "seed(MAX) = MIN", "seed(0) = MAX", "seed(-1) = 0",
        "seed(1) = -1");
    Edge.holds("Promise 34: what z was is no finding, though it looks like one", "seed(BEYOND) = 1",
        "seed(FULL) = BEYOND", "seed(KIND) = FULL", "seed(NONE) = KIND", "seed(STATE) = NONE", "seed(MISSING) = STATE",
        "seed(SIZE) = MISSING", "count(6) = SIZE", "seed(1) = SIZE", "-1..6: status(#) = 0");
    Edge.holds("Promise 34: draws go on from it", "thrower(0, 3)", "letter(3)", "seed(0) = 1", "hours(1)",
        "seed(5) = 12345");
  }
}
