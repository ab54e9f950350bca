import java.util.ArrayList;
import java.util.Arrays;
import java.util.List;

/** Edges of promises 38 to 44: spots, sheets. */
public final class EdgesOfSheetsTest {
  private static final int[] WIDTHS = {8, 16, 32};

  public static void main(String[] args) {
    hold();
    as();
    asKinds();
    sheet();
    write();
    writeLowestBits();
    copyFindings();
    copyBounds();
    copyAsTheyWere();
    load();
    judge();
    judgeWays();
    Edge.end();
  }

  /** A sheet with such numbers. */
  private static String[] filled(int s, int bits, int... numbers) {
    List<String> rows = new ArrayList<>();
    rows.add("sheet(" + s + ", " + bits + ", " + numbers.length + ") = " + numbers.length);
    for (int i = 0; i < numbers.length; i++) {
      rows.add("write(" + s + ", " + i + ", " + numbers[i] + ") = 1");
    }
    return rows.toArray(new String[0]);
  }

  private static void hold() {
    Edge.range("Promise 38: BEYOND, SPOTS 0 to 9", 0, 9, "thrower(0, 4)", "hold(#, 0)");
    Edge.range("Promise 38: BEYOND, SPOTS 0 to 9, and nothing", 0, 9, "hold(#, -1)");
    Edge.range("Promise 38: BEYOND, no THROWERS: but nothing, -1", -1, -1, "hold(0, #)");
    Edge.range("Promise 38: BEYOND, one THROWER or nothing", -1, 0, "thrower(0, 4)", "hold(0, #)");
    Edge.range("Promise 38: BEYOND, ten THROWERS or nothing", -1, 9, "0..9: thrower(0, #)", "hold(0, #)");
    Edge.holds("Promise 38: it holds a THROWER: 1", "0..9: thrower(0, #)", "0..9: hold(#, #) = 1", "count(7) = 10",
        "0..9: as(#, 0) = #");
    Edge.holds("Promise 38: it holds nothing: 1", "thrower(0, 4)", "hold(3, -1) = 1", "hold(3, 0) = 1", "count(7) = 1",
        "hold(3, -1) = 1", "as(3, 0) = MISSING", "count(7) = 0");
    Edge.holds("Promise 38: several hold one", "thrower(0, 4)", "hold(0, 0) = 1", "hold(9, 0) = 1", "count(7) = 2",
        "as(0, 0) = 0", "as(9, 0) = 0", "as(1, 0) = MISSING");
    Edge.holds("Promise 38: a refused call leaves what it holds", "0..1: thrower(0, #)", "hold(0, 1) = 1",
        "hold(0, 2) = BEYOND", "hold(0, -2) = BEYOND", "as(0, 0) = 1");
  }

  private static void as() {
    Edge.range("Promise 39: BEYOND, SPOTS 0 to 9", 0, 9, "thrower(0, 4)", "0..9: hold(#, 0)", "as(#, 0)");
    Edge.holds("Promise 39: BEYOND, KINDS 0 to 6", "thrower(6, 4)", "hold(0, 0)", "as(0, 0) = 0", "as(0, 6) = 0",
        "as(0, 7) = BEYOND", "as(0, -1) = BEYOND", "as(0, MIN) = BEYOND", "as(0, MAX) = BEYOND");
    Edge.holds("Promise 39: MISSING, it holds nothing", "thrower(0, 4)", "0..9: as(#, 0) = MISSING",
        "0..6: as(0, #) = MISSING");
    Edge.holds("Promise 39: MISSING, it holds nothing any more", "thrower(0, 4)", "hold(0, 0)", "hold(0, -1)",
        "as(0, 0) = MISSING");
    Edge.holds("Promise 39: BEYOND ahead of MISSING", "as(0, 7) = BEYOND", "as(0, -1) = BEYOND", "as(10, 0) = BEYOND",
        "as(-1, 0) = BEYOND", "as(0, 0) = MISSING");
    Edge.holds("Promise 39: the number of the THROWER, the last of ten", "0..9: thrower(6, #)", "hold(5, 9)",
        "as(5, 6) = 9", "as(5, 0) = 9", "as(5, 1) = KIND");
    Edge.holds("Promise 39: of the kind that he is now", "thrower(0, 4)", "hold(0, 0)", "as(0, 1) = KIND",
        "change(0, 0, 3)", "as(0, 1) = 0", "change(0, 0, 4)", "as(0, 1) = KIND", "as(0, 2) = 0");
    Edge.holds("Promise 39: ILL ones, too", "thrower(0, 4)", "hold(0, 0)", "change(0, 7, 1)", "as(0, 0) = 0");
  }

  private static void asKinds() {
    int[][] under = {{0}, {0, 1}, {0, 2}, {0, 1, 3}, {0, 2, 4}, {0, 5}, {0, 6}};
    for (int kind = 0; kind <= 6; kind++) {
      List<String> rows = new ArrayList<>(List.of("thrower(" + kind + ", 4)", "hold(0, 0)"));
      for (int asked = 0; asked <= 6; asked++) {
        rows.add("as(0, " + asked + ") = " + (Arrays.binarySearch(under[kind], asked) >= 0 ? "0" : "KIND"));
      }
      Edge.holds("Promise 39: KIND, it isn't of that kind, nor of one under it: " + kind, rows.toArray(new String[0]));
    }
  }

  private static void sheet() {
    Edge.range("Promise 40: BEYOND, no such sheet", 0, 3, "sheet(#, 8, 5)");
    for (int bits : new int[] {0, 8, 16, 32}) {
      Edge.holds("Promise 40: SIZE, n is below 0, of " + bits + " bits", "sheet(1, 8, 2) = 2",
          "sheet(1, " + bits + ", -1) = SIZE", "sheet(1, " + bits + ", MIN) = SIZE", "load(1) = 2");
      Edge.holds("Promise 40: BEYOND, n is above 40, of " + bits + " bits", "sheet(1, 8, 2) = 2",
          "sheet(1, " + bits + ", 41) = BEYOND", "sheet(1, " + bits + ", MAX) = BEYOND", "load(1) = 2");
    }
    for (int bits : new int[] {1, 4, 7, 9, 15, 17, 24, 31, 33, 64, -1, -8, Integer.MIN_VALUE, Integer.MAX_VALUE}) {
      Edge.holds("Promise 40: BEYOND, other bits: " + bits, "sheet(0, 8, 2) = 2", "sheet(0, " + bits + ", 1) = BEYOND",
          "load(0) = 2");
    }
    Edge.holds("Promise 40: BEYOND, no such sheet, ahead of SIZE", "sheet(4, 8, -1) = BEYOND",
        "sheet(-1, 8, -1) = BEYOND");
    Edge.holds("Promise 40: BEYOND, other bits, ahead of SIZE", "sheet(0, 9, -1) = BEYOND",
        "sheet(0, -1, -1) = BEYOND");
    for (int bits : WIDTHS) {
      Edge.holds("Promise 40: n numbers of " + bits + " bits, none and 40", "sheet(3, " + bits + ", 0) = 0",
          "load(3) = 0", "write(3, 0, 1) = BEYOND", "sheet(3, " + bits + ", 40) = 40", "write(3, 39, 1) = 1",
          "write(3, 40, 1) = BEYOND", "load(3) = 24");
      Edge.holds("Promise 40: all 0, also anew, of " + bits + " bits", Edge.rows(filled(2, bits, 3, 3, 3),
          "load(2) = 3", "sheet(2, " + bits + ", 4) = 4", "load(2) = 4", "0..3: stuff(#, 0) = 0"));
    }
    Edge.holds("Promise 40: bits 0: it is MISSING: 0", "sheet(0, 8, 5) = 5", "sheet(0, 0, 5) = 0", "load(0) = MISSING",
        "sheet(0, 0, 0) = 0", "load(0) = MISSING", "sheet(0, 0, 40) = 0", "sheet(0, 8, 1) = 1", "load(0) = 1");
    Edge.holds("Promise 40: the other sheets stay", "0..3: sheet(#, 8, 5) = 5", "sheet(1, 0, 0) = 0",
        "sheet(2, 16, 7) = 7", "load(0) = 5", "load(1) = MISSING", "load(2) = 7", "load(3) = 5");
  }

  private static void write() {
    Edge.range("Promise 41: BEYOND, no such sheet", 0, 3, "0..3: sheet(#, 8, 5)", "write(#, 0, 1)");
    Edge.range("Promise 41: BEYOND, no such number of one", 0, 0, "sheet(0, 8, 1)", "write(0, #, 1)");
    Edge.range("Promise 41: BEYOND, no such number of 40", 0, 39, "sheet(0, 8, 40)", "write(0, #, 1)");
    Edge.holds("Promise 41: BEYOND, a sheet of none", "sheet(0, 8, 0) = 0", "write(0, 0, 1) = BEYOND",
        "write(0, -1, 1) = BEYOND");
    Edge.holds("Promise 41: MISSING", "write(0, 0, 1) = MISSING", "write(3, 0, 1) = MISSING", "sheet(0, 8, 5)",
        "write(0, 0, 1) = 1", "sheet(0, 0, 5)", "write(0, 0, 1) = MISSING");
    Edge.holds("Promise 41: BEYOND, no such sheet, ahead of MISSING", "write(4, 0, 1) = BEYOND",
        "write(-1, 0, 1) = BEYOND");
    Edge.holds("Promise 41: MISSING ahead of BEYOND, no such number", "write(0, -1, 1) = MISSING",
        "write(0, 40, 1) = MISSING");
    Edge.holds("Promise 41: a refused call leaves the numbers", Edge.rows(filled(0, 8, 1, 2), "write(0, 2, 3) = BEYOND",
        "write(0, -1, 3) = BEYOND", "load(0) = 2", "stuff(0, 0) = 1", "stuff(1, 0) = 2"));
    Edge.holds("Promise 41: the first and the last number, and no other", "sheet(0, 8, 24)", "write(0, 0, 3) = 1",
        "write(0, 23, 2) = 1", "load(0) = 24", "stuff(0, 0) = 3", "1..22: stuff(#, 0) = 0", "stuff(23, 0) = 2");
  }

  /** What a number is, is seen by load(): 0 to 3 come to the land. */
  private static void lowest(int bits, String v, int seen) {
    Edge.holds("Promise 41: v, its lowest " + bits + " bits: " + v, "sheet(0, " + bits + ", 1)",
        "write(0, 0, " + v + ") = 1", seen < 0 ? "load(0) = 0" : "load(0) = 1", "stuff(0, 0) = " + Math.max(0, seen));
  }

  private static void writeLowestBits() {
    lowest(8, "3", 3);
    lowest(8, "4", -1);
    lowest(8, "127", -1);
    lowest(8, "128", -1);
    lowest(8, "255", -1);
    lowest(8, "256", 0);
    lowest(8, "259", 3);
    lowest(8, "-253", 3);
    lowest(8, "-1", -1);
    lowest(8, "65538", 2);
    lowest(8, "MIN", 0);
    lowest(8, "MAX", -1);
    lowest(16, "256", -1);
    lowest(16, "259", -1);
    lowest(16, "32768", -1);
    lowest(16, "65535", -1);
    lowest(16, "65536", 0);
    lowest(16, "65539", 3);
    lowest(16, "-65533", 3);
    lowest(16, "MIN", 0);
    lowest(16, "MAX", -1);
    lowest(32, "3", 3);
    lowest(32, "256", -1);
    lowest(32, "65536", -1);
    lowest(32, "65539", -1);
    lowest(32, "-1", -1);
    lowest(32, "MIN", -1);
    lowest(32, "MAX", -1);
  }

  private static void copyFindings() {
    String[] two = {"sheet(0, 8, 5)", "sheet(1, 8, 5)", "sheet(2, 16, 5)", "write(0, 0, 3)"};
    Edge.range("Promise 42: BEYOND, no such sheet, the one", 0, 3, "0..3: sheet(#, 8, 5)", "copy(#, 0, 1, 0, 2)");
    Edge.range("Promise 42: BEYOND, no such sheet, the other", 0, 3, "0..3: sheet(#, 8, 5)", "copy(1, 0, #, 0, 2)");
    Edge.holds("Promise 42: BEYOND, no such sheet, ahead of MISSING", Edge.rows(two, "copy(4, 0, 3, 0, 1) = BEYOND",
        "copy(3, 0, 4, 0, 1) = BEYOND", "copy(-1, 0, 3, 0, 1) = BEYOND", "copy(3, 0, -1, 0, 1) = BEYOND"));
    Edge.holds("Promise 42: MISSING, one is, or both", Edge.rows(two, "copy(0, 0, 3, 0, 1) = MISSING",
        "copy(3, 0, 0, 0, 1) = MISSING", "copy(3, 0, 3, 0, 0) = MISSING"));
    Edge.holds("Promise 42: MISSING ahead of KIND and of BEYOND", Edge.rows(two, "copy(2, 0, 3, 0, 1) = MISSING",
        "copy(0, -1, 3, 0, 1) = MISSING", "copy(3, 0, 0, 0, 99) = MISSING", "copy(3, 0, 0, 0, -1) = MISSING"));
    Edge.holds("Promise 42: KIND, not of as many bits", Edge.rows(two, "copy(0, 0, 2, 0, 1) = KIND",
        "copy(2, 0, 0, 0, 1) = KIND", "copy(2, 0, 0, 0, 0) = KIND", "sheet(3, 32, 5)", "copy(0, 0, 3, 0, 1) = KIND",
        "copy(3, 0, 2, 0, 1) = KIND"));
    Edge.holds("Promise 42: KIND ahead of BEYOND", Edge.rows(two, "copy(0, -1, 2, 0, 1) = KIND",
        "copy(0, 0, 2, 9, 1) = KIND", "copy(0, 0, 2, 0, -1) = KIND", "copy(0, 0, 2, 0, MAX) = KIND"));
    for (int bits : WIDTHS) {
      Edge.holds("Promise 42: of as many bits: " + bits, "sheet(0, " + bits + ", 2)", "sheet(1, " + bits + ", 2)",
          "write(0, 0, 3)", "copy(0, 0, 1, 1, 1) = 1", "load(1) = 2", "stuff(0, 0) = 0", "stuff(1, 0) = 3");
    }
  }

  private static void copyBounds() {
    Edge.range("Promise 42: BEYOND, from, one number of five", 0, 4, "sheet(0, 8, 5)", "sheet(1, 8, 5)",
        "copy(0, #, 1, 0, 1)");
    Edge.range("Promise 42: BEYOND, to, one number of five", 0, 4, "sheet(0, 8, 5)", "sheet(1, 8, 5)",
        "copy(0, 0, 1, #, 1)");
    Edge.range("Promise 42: BEYOND, n, of five and seven", 0, 5, "sheet(0, 8, 5)", "sheet(1, 8, 7)",
        "copy(0, 0, 1, 0, #)");
    Edge.range("Promise 42: BEYOND, n, of seven and five", 0, 5, "sheet(0, 8, 7)", "sheet(1, 8, 5)",
        "copy(0, 0, 1, 0, #)");
    Edge.range("Promise 42: BEYOND, n, from 2 of five", 0, 3, "sheet(0, 8, 5)", "sheet(1, 8, 5)",
        "copy(0, 2, 1, 0, #)");
    Edge.range("Promise 42: BEYOND, n, to 2 of five", 0, 3, "sheet(0, 8, 5)", "sheet(1, 8, 5)", "copy(0, 0, 1, 2, #)");
    Edge.range("Promise 42: BEYOND, n, all of 40", 0, 40, "sheet(0, 8, 40)", "sheet(1, 8, 40)", "copy(0, 0, 1, 0, #)");
    Edge.range("Promise 42: BEYOND, n 0, too: from", 0, 5, "sheet(0, 8, 5)", "sheet(1, 8, 5)", "copy(0, #, 1, 0, 0)");
    Edge.range("Promise 42: BEYOND, n 0, too: to", 0, 5, "sheet(0, 8, 5)", "sheet(1, 8, 5)", "copy(0, 0, 1, #, 0)");
    Edge.range("Promise 42: BEYOND, n, of sheets of none", 0, 0, "sheet(0, 8, 0)", "sheet(1, 8, 0)",
        "copy(0, 0, 1, 0, #)");
    Edge.holds("Promise 42: BEYOND, sums that go round", "sheet(0, 8, 5)", "sheet(1, 8, 5)",
        "copy(0, MAX, 1, 0, MAX) = BEYOND", "copy(0, 0, 1, MAX, MAX) = BEYOND", "copy(0, MAX, 1, 0, 1) = BEYOND",
        "copy(0, 1, 1, 1, MAX) = BEYOND", "copy(0, MIN, 1, MIN, MIN) = BEYOND", "copy(0, 5, 1, 5, -5) = BEYOND",
        "copy(0, 2, 1, 2, -1) = BEYOND", "copy(0, -1, 1, -1, 1) = BEYOND");
  }

  private static void copyAsTheyWere() {
    Edge.holds("Promise 42: n: how many, none and all", Edge.rows(filled(0, 8, 1, 2, 3), "sheet(1, 8, 3)",
        "copy(0, 0, 1, 0, 0) = 0", "load(1) = 3", "0..2: stuff(#, 0) = 0", "copy(0, 0, 1, 0, 3) = 3", "load(1) = 3",
        "stuff(0, 0) = 1", "stuff(1, 0) = 2", "stuff(2, 0) = 3"));
    Edge.holds("Promise 42: the last to the first", Edge.rows(filled(0, 8, 1, 2, 3), "sheet(1, 8, 3)",
        "copy(0, 2, 1, 0, 1) = 1", "load(1) = 3", "stuff(0, 0) = 3", "stuff(1, 0) = 0", "stuff(2, 0) = 0",
        "load(0) = 3", "stuff(2, 0) = 3"));
    Edge.holds("Promise 42: as they all were, onto itself, on", Edge.rows(filled(0, 8, 1, 2, 3, 0),
        "copy(0, 0, 0, 1, 3) = 3", "load(0) = 4", "stuff(0, 0) = 1", "stuff(1, 0) = 1", "stuff(2, 0) = 2",
        "stuff(3, 0) = 3"));
    Edge.holds("Promise 42: as they all were, onto itself, back", Edge.rows(filled(0, 8, 1, 2, 3, 0),
        "copy(0, 1, 0, 0, 3) = 3", "load(0) = 4", "stuff(0, 0) = 2", "stuff(1, 0) = 3", "stuff(2, 0) = 0",
        "stuff(3, 0) = 0"));
    Edge.holds("Promise 42: as they all were, onto itself, in place", Edge.rows(filled(0, 8, 1, 2, 3),
        "copy(0, 0, 0, 0, 3) = 3", "load(0) = 3", "stuff(0, 0) = 1", "stuff(1, 0) = 2", "stuff(2, 0) = 3"));
  }

  private static void load() {
    Edge.range("Promise 43: BEYOND, no such sheet", 0, 3, "0..3: sheet(#, 8, 5)", "load(#)");
    Edge.holds("Promise 43: MISSING", "0..3: load(#) = MISSING", "sheet(0, 8, 1)", "load(0) = 1", "sheet(0, 0, 1)",
        "load(0) = MISSING");
    Edge.holds("Promise 43: BEYOND ahead of MISSING", "load(4) = BEYOND", "load(-1) = BEYOND");
    Edge.holds("Promise 43: a sheet of none", "stuff(0, 3)", "sheet(0, 8, 0)", "load(0) = 0", "stuff(0, 0) = 3");
    for (int n : new int[] {1, 23, 24, 25, 40}) {
      Edge.holds("Promise 43: it ends where there is no CELL: " + n + " numbers", "0..23: stuff(#, 1)",
          "sheet(0, 8, " + n + ")", "load(0) = " + Math.min(n, 24), "stuff(0, 0) = 0",
          "stuff(23, 0) = " + (n < 24 ? 1 : 0));
    }
    for (int v : new int[] {-1, 4, 5, 127, Integer.MIN_VALUE, Integer.MAX_VALUE}) {
      Edge.holds("Promise 43: it ends at the first that isn't 0 to 3: " + v, Edge.rows(filled(0, 32, 3, 2, v, 1),
          "load(0) = 2", "stuff(0, 0) = 3", "stuff(1, 0) = 2", "stuff(2, 0) = 0", "stuff(3, 0) = 0"));
      Edge.holds("Promise 43: it ends at the first number of all: " + v, Edge.rows(filled(0, 32, v, 1), "load(0) = 0",
          "stuff(0, 0) = 0", "stuff(1, 0) = 0"));
    }
    Edge.holds("Promise 43: all of 0 to 3, on the last CELL, too", "sheet(0, 8, 24)", "20..23: write(0, #, 3)",
        "write(0, 21, 0)", "write(0, 22, 1)", "write(0, 23, 2)", "load(0) = 24", "stuff(20, 0) = 3", "stuff(21, 0) = 0",
        "stuff(22, 0) = 1", "stuff(23, 0) = 2");
  }

  private static void judge() {
    Edge.range("Promise 44: BEYOND, no such sheet", 0, 3, "0..3: sheet(#, 8, 5)", "letter(0)", "judge(#, 0)");
    Edge.range("Promise 44: BEYOND, no other LETTER than the twelve", 0, 11, "sheet(0, 8, 5)", "0..11: letter(#)",
        "judge(0, #)");
    Edge.holds("Promise 44: BEYOND, no LETTERS", "sheet(0, 8, 0)", "judge(0, 0) = BEYOND", "judge(0, -1) = BEYOND");
    Edge.holds("Promise 44: MISSING", "letter(0)", "0..3: judge(#, 0) = MISSING");
    Edge.holds("Promise 44: BEYOND, no such sheet, ahead of MISSING", "letter(0)", "judge(4, 0) = BEYOND",
        "judge(-1, 0) = BEYOND");
    Edge.holds("Promise 44: MISSING ahead of BEYOND, no such LETTER", "judge(0, 0) = MISSING", "judge(0, -1) = MISSING",
        "judge(0, 12) = MISSING");
    Edge.holds("Promise 44: no numbers: all are right", "letter(5)", "sheet(0, 8, 0)", "judge(0, 0) = 0");
    Edge.holds("Promise 44: the first: that of the LETTER", "letter(5)", "sheet(0, 8, 1)", "judge(0, 0) = 1",
        "write(0, 0, 5)", "judge(0, 0) = 0", "write(0, 0, 4)", "judge(0, 0) = 1", "write(0, 0, 6)", "judge(0, 0) = 1");
    Edge.holds("Promise 44: the first and the last CELL", "letter(0)", "letter(23)", "sheet(0, 8, 2)",
        "judge(0, 0) = 0", "judge(0, 1) = 1", "write(0, 0, 23)", "judge(0, 1) = 2", "write(0, 1, 23)",
        "judge(0, 1) = 0", "judge(0, 0) = 1");
    Edge.holds("Promise 44: as many numbers as there may be", "letter(0)", "sheet(0, 8, 40)", "judge(0, 0) = 0",
        "write(0, 39, 1)", "judge(0, 0) = 40", "write(0, 38, 1)", "judge(0, 0) = 39", "write(0, 0, 1)",
        "judge(0, 0) = 1");
    for (int v : new int[] {-1, 24, 32, 37, 256 + 5, Integer.MIN_VALUE, Integer.MAX_VALUE, -27}) {
      Edge.holds("Promise 44: a number that is no CELL: " + v, Edge.rows(filled(0, 32, 5, v, 5), "letter(5)",
          "judge(0, 0) = 2", "write(0, 0, " + v + ")", "judge(0, 0) = 1"));
    }
    Edge.holds("Promise 44: numbers by their lowest bits", "letter(5)", "sheet(0, 8, 2)", "write(0, 0, 261)",
        "write(0, 1, -251)", "judge(0, 0) = 0");
  }

  private static void judgeWays() {
    Edge.holds("Promise 44: a way of 0 twelfths is none", Edge.rows(filled(0, 8, 3, 5), "thrower(0, 3)", "letter(3)",
        "change(0, 5, 0)", "judge(0, 0) = 2", "change(0, 5, 1)", "judge(0, 0) = 0", "write(0, 1, 4)", "judge(0, 0) = 0",
        "change(0, 5, 12)", "judge(0, 0) = 2", "change(0, 5, 11)", "judge(0, 0) = 0"));
    Edge.holds("Promise 44: from the one ahead, not from the first", Edge.rows(filled(0, 8, 3, 5, 5, 4), "rule(1, 0)",
        "thrower(0, 3)", "letter(3)", "judge(0, 0) = 4", "write(0, 3, 5)", "judge(0, 0) = 0"));
    Edge.holds("Promise 44: CHOICES as they are", Edge.rows(filled(0, 8, 3, 8), "thrower(0, 3)", "letter(3)",
        "judge(0, 0) = 2", "set(1)", "judge(0, 0) = 0"));
    Edge.holds("Promise 44: HOURS from now on, by their CLOCKS", Edge.rows(filled(0, 8, 3, 3, 4), "rule(1, 0)",
        "thrower(5, 3)", "change(0, 2, 1)", "change(0, 5, 12)", "letter(3)", "judge(0, 0) = 3", "hours(5)",
        "judge(0, 0) = 0", "hours(1)", "judge(0, 0) = 2"));
    Edge.holds("Promise 44: HOURS from now on, where the CLOCK goes round", Edge.rows(filled(0, 8, 3, 3, 3, 3),
        "rule(1, 0)", "thrower(5, 3)", "change(0, 2, 1)", "change(0, 5, 12)", "hours(22)", "letter(3)",
        "judge(0, 0) = 0"));
    Edge.holds("Promise 44: on HOME and in a BROOK it stays", Edge.rows(filled(0, 8, 23, 23, 22), "letter(23)",
        "judge(0, 0) = 3", "thrower(0, 4)", "stuff(4, 1)", "letter(4)", "write(0, 0, 4)", "write(0, 1, 4)",
        "write(0, 2, 4)", "judge(0, 1) = 0"));
    Edge.holds("Promise 44: HOUR 9999, the CLOCK goes on", Edge.rows(filled(0, 8, 3, 4, 4), "208 * hours(48)",
        "hours(15)", "rule(1, 0)", "thrower(5, 3)", "change(0, 2, 1)", "change(0, 5, 12)", "letter(3)",
        "judge(0, 0) = 0"));
  }
}
