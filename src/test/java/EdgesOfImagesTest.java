/** Edges of promises 45 to 49: images, count, status. */
public final class EdgesOfImagesTest {
  private static final String BLANKS = " ".repeat(120);

  public static void main(String[] args) {
    image();
    imageOfThrowers();
    notKept();
    undo();
    tear();
    count();
    countOfMost();
    status();
    statusOfEach();
    Edge.end();
  }

  private static void image() {
    Edge.holds("Promise 45: of a new object: 1, and again", "image() = 1", "image() = 1", "undo() = 0");
    Edge.holds("Promise 45: STUFF is kept, of the first and the last CELL", "stuff(0, 1)", "stuff(23, 2)",
        "image() = 1", "0..23: stuff(#, 3)", "undo() = 0", "stuff(0, 0) = 1", "1..22: stuff(#, 0) = 0",
        "stuff(23, 0) = 2");
    Edge.holds("Promise 45: HOME and FETCH are kept", "rule(0, 5)", "rule(1, 7)", "image() = 1", "rule(0, 6)",
        "rule(1, 8)", "undo() = 0", "rule(0, 0) = 5", "rule(1, 0) = 7");
    Edge.holds("Promise 45: HOUR is kept", "hours(5)", "image() = 1", "hours(48)", "undo() = 5", "count(0) = 5");
    Edge.holds("Promise 45: z is kept", "seed(MIN)", "image() = 1", "seed(77)", "undo() = 0", "count(6) = MIN");
    Edge.holds("Promise 45: draws are the same again", "thrower(0, 3)", "letter(3)", "image() = 1", "hours(1)",
        "count(6) = 1103527590", "where(0) = 5", "undo() = 0", "count(6) = 1", "where(0) = 3", "hours(1)",
        "count(6) = 1103527590", "where(0) = 5");
    Edge.holds("Promise 45: LETTERS are kept, those taken out, too", "letter(3)", "letter(4)", "image() = 1",
        "take(0) = 3", "letter(5)", "letter(6)", "undo() = 0", "count(2) = 2", "where(0) = 3", "where(1) = 4",
        "where(2) = BEYOND");
    Edge.holds("Promise 45: LETTERS are kept, as many as there may be", "0..11: letter(#)", "image() = 1",
        "12 * take(0)", "count(2) = 0", "undo() = 0", "count(2) = 12", "0..11: where(#) = #", "letter(0) = FULL");
    Edge.holds("Promise 45: no LETTERS are kept", "image() = 1", "12 * letter(3)", "undo() = 0", "count(2) = 0",
        "where(0) = BEYOND");
    Edge.holds("Promise 45: SPOTS are kept", "thrower(0, 3)", "hold(0, 0)", "image() = 1", "hold(0, -1)", "hold(9, 0)",
        "undo() = 0", "as(0, 0) = 0", "as(9, 0) = MISSING", "count(7) = 1");
  }

  private static void imageOfThrowers() {
    int[] whats = {0, 2, 3, 4, 5, 6, 7};
    int[] first = {6, 9, 12, 0, 12, 1, 1};
    int[] then = {0, 1, 1, 1, 0, 0, 0};
    for (int i = 0; i < whats.length; i++) {
      Edge.holds("Promise 45: a THROWER's what " + whats[i] + " is kept", "thrower(0, 3)",
          "change(0, " + whats[i] + ", " + first[i] + ")", "image() = 1",
          "change(0, " + whats[i] + ", " + then[i] + ") = " + first[i], "undo() = 0",
          "of(0, " + whats[i] + ") = " + first[i]);
    }
    Edge.holds("Promise 45: a THROWER's CELL is kept", "thrower(0, 3)", "image() = 1", "walk(0, 23)", "undo() = 0",
        "of(0, 1) = 3", "thrower(0, 3) = STATE", "thrower(0, 23) = 1");
    Edge.holds("Promise 45: a THROWER's THANKS are kept", "thrower(6, 3)", "change(0, 2, 1)", "letter(3)", "hours(5)",
        "image() = 1", "hours(7)", "count(3) = 12", "undo() = 5", "of(0, 8) = 5", "count(3) = 5");
    Edge.holds("Promise 45: as many THROWERS as there may be", "0..9: thrower(0, #)", "image() = 1", "walk(9, 23)",
        "undo() = 0", "of(9, 1) = 9", "thrower(0, 20) = FULL");
    Edge.holds("Promise 45: no THROWERS are kept", "image() = 1", "0..9: thrower(0, #)", "undo() = 0", "count(1) = 0",
        "of(0, 0) = BEYOND", "thrower(6, 3) = 0", "of(0, 0) = 6");
    Edge.holds("Promise 45: a new one behind undo() is as at first", "image() = 1", "thrower(6, 3)", "change(0, 2, 9)",
        "change(0, 7, 1)", "undo() = 0", "thrower(1, 4) = 0", "of(0, 0) = 1", "of(0, 1) = 4", "of(0, 2) = 2",
        "of(0, 7) = 0");
    Edge.holds("Promise 45: a text's land is undone, too", "image() = 1",
        "text(\"road 0 to 23;home 5;fetch 1;lad at 3;letter 4\") = 5", "undo() = 0", "0..23: stuff(#, 0) = 0",
        "rule(0, 0) = 23", "rule(1, 0) = 2", "count(1) = 0", "count(2) = 0");
  }

  private static void notKept() {
    Edge.holds("Promise 45: all but THE TAPE: what came then stays", "fed(\"home\") = 4", "image() = 1",
        "fed(\" 7\") = 6", "undo() = 0", "count(5) = 6", "text() = 1", "rule(0, 0) = 7");
    Edge.holds("Promise 45: all but THE TAPE: what was wiped stays so", "fed(\"home 7\") = 6", "image() = 1",
        "wipe() = 6", "undo() = 0", "count(5) = 0", "text() = -1");
    Edge.holds("Promise 45: all but SHEETS: a number stays", "sheet(0, 8, 2)", "image() = 1", "write(0, 1, 3)",
        "undo() = 0", "load(0) = 2", "stuff(1, 0) = 3");
    Edge.holds("Promise 45: all but SHEETS: a new one stays, a MISSING one, too", "sheet(0, 8, 2)", "image() = 1",
        "sheet(0, 0, 0)", "sheet(1, 16, 3)", "undo() = 0", "load(0) = MISSING", "load(1) = 3");
  }

  private static void undo() {
    Edge.holds("Promise 46: NONE, nothing is kept", "hours(3)", "undo() = NONE", "count(0) = 3");
    Edge.holds("Promise 46: NONE, it is torn", "image() = 1", "hours(3)", "tear() = 1", "undo() = NONE",
        "count(0) = 3");
    Edge.holds("Promise 46: which stays", "hours(1)", "image() = 1", "hours(3)", "undo() = 1", "hours(5)", "undo() = 1",
        "undo() = 1", "count(0) = 1");
    Edge.holds("Promise 46: which stays, whatever comes behind undo()", "thrower(0, 3)", "image() = 1", "undo() = 0",
        "change(0, 2, 9)", "letter(5)", "stuff(4, 3)", "hold(0, 0)", "undo() = 0", "of(0, 2) = 2", "count(2) = 0",
        "stuff(4, 0) = 0", "count(7) = 0");
    Edge.holds("Promise 46: what was kept latest", "image() = 1", "hours(3)", "image() = 1", "hours(5)", "undo() = 3",
        "tear() = 1", "undo() = NONE");
    Edge.holds("Promise 46: HOUR, the greatest", "208 * hours(48)", "hours(15)", "image() = 1", "undo() = 9999",
        "hours(1) = STATE");
    Edge.holds("Promise 46: HOURS go again from there", "208 * hours(48)", "image() = 1", "hours(15)",
        "hours(1) = STATE", "undo() = 9984", "hours(15) = 0", "count(0) = 9999");
    Edge.holds("Promise 46: undo() takes no finding back", "image() = 1", "stuff(24, 0) = BEYOND", "undo() = 0",
        "status(0) = 1", "status(-1) = 1");
    Edge.holds("Promise 46: a finding ahead of the image is not counted twice", "stuff(24, 0) = BEYOND", "image() = 1",
        "undo() = 0", "status(-1) = 1");
  }

  private static void tear() {
    Edge.holds("Promise 47: nothing is kept: 0", "tear() = 0", "tear() = 0");
    Edge.holds("Promise 47: something was: 1, then 0", "image() = 1", "tear() = 1", "tear() = 0", "undo() = NONE");
    Edge.holds("Promise 47: two images are one", "image() = 1", "image() = 1", "tear() = 1", "tear() = 0");
    Edge.holds("Promise 47: undo() tears nothing", "image() = 1", "undo() = 0", "tear() = 1");
    Edge.holds("Promise 47: the land stays", "thrower(0, 3)", "image() = 1", "walk(0, 5)", "tear() = 1",
        "of(0, 1) = 5");
    Edge.holds("Promise 47: an image behind it is kept", "image() = 1", "tear() = 1", "hours(4)", "image() = 1",
        "hours(1)", "undo() = 4");
  }

  private static void count() {
    Edge.range("Promise 48: BEYOND, another what", 0, 7, "count(#)");
    Edge.holds("Promise 48: of a new object", "0..5: count(#) = 0", "count(6) = 1", "count(7) = 0");
    Edge.holds("Promise 48: z may look like a finding", "seed(BEYOND) = 1", "count(6) = BEYOND", "seed(SIZE) = BEYOND",
        "count(6) = SIZE", "-1..6: status(#) = 0");
    Edge.holds("Promise 48: z may be any int", "seed(MIN)", "count(6) = MIN", "seed(MAX)", "count(6) = MAX");
    Edge.holds("Promise 48: each by itself", "hours(2)", "0..2: thrower(6, #)", "0..3: letter(#)", "change(1, 7, 1)",
        "fed(\"home \") = 5", "hold(3, 0)", "hold(4, 0)", "count(0) = 2", "count(1) = 3", "count(2) = 4",
        "count(3) = 0", "count(4) = 1", "count(5) = 5", "count(6) = 1", "count(7) = 2");
  }

  private static void countOfMost() {
    Edge.holds("Promise 48: HOUR, the most", "208 * hours(48)", "hours(15)", "count(0) = 9999");
    Edge.holds("Promise 48: THROWERS, the most, ILL ones, too", "0..9: thrower(0, #)", "0..9: change(#, 7, 1)",
        "count(1) = 10", "count(4) = 10", "0..9: change(#, 7, 0)", "count(4) = 0");
    Edge.holds("Promise 48: LETTERS, the most", "12 * letter(3)", "count(2) = 12", "take(0)", "count(2) = 11");
    Edge.holds("Promise 48: THANKS of all, ILL ones, too", "rule(1, 0)", "0..9: thrower(6, #)", "0..9: change(#, 2, 1)",
        "0..9: letter(#)", "hours(48)", "count(3) = 480", "0..9: change(#, 7, 1)", "count(3) = 480");
    Edge.holds("Promise 48: bytes of THE TAPE, the most", "fed(\"" + BLANKS + "\") = 120", "count(5) = 120",
        "feed(0, 1) = FULL", "count(5) = 120", "wipe()", "count(5) = 0");
    Edge.holds("Promise 48: SPOTS, the most", "thrower(0, 3)", "0..9: hold(#, 0)", "count(7) = 10", "0..9: hold(#, -1)",
        "count(7) = 0");
  }

  private static void status() {
    Edge.range("Promise 49: BEYOND, another which", -1, 6, "status(#)");
    Edge.holds("Promise 49: BEYOND is counted from then on", "status(7) = BEYOND", "status(0) = 1", "status(-1) = 1",
        "status(-2) = BEYOND", "status(0) = 2", "status(-1) = 2", "1..6: status(#) = 0");
    Edge.holds("Promise 49: nothing found yet", "-1..6: status(#) = 0", "status(-1) = 0");
    Edge.holds("Promise 49: a FAULT is no finding", "text(\"stone\") = -1", "text() = -1", "status(-1) = 0");
    Edge.holds("Promise 49: longs are counted, too", "odds(24, 0, 0) = BEYOND", "lost(24, 0) = BEYOND",
        "best(24, 0) = BEYOND", "copies(24, 0) = BEYOND", "status(0) = 4", "status(-1) = 4");
    Edge.holds("Promise 49: ever: text(), wipe(), tear() and undo() take none back", "image()", "stuff(24, 0) = BEYOND",
        "text() = -1", "wipe() = 0", "undo() = 0", "tear() = 1", "undo() = NONE", "status(0) = 1", "status(3) = 1",
        "status(-1) = 2");
  }

  private static void statusOfEach() {
    String[] found = {"letter(24)", "letter(0)", "as(0, 6)", "undo()", "thrower(0, 5)", "as(1, 0)", "sheet(0, 8, -1)"};
    String[] names = {"BEYOND", "FULL", "KIND", "NONE", "STATE", "MISSING", "SIZE"};
    String[] land = {"12 * letter(0)", "thrower(0, 5)", "hold(0, 0)"};
    for (int f = 0; f < names.length; f++) {
      String refused = found[f] + " = " + names[f];
      Edge.holds("Promise 49: status(" + f + ") counts " + names[f], Edge.rows(land, refused, refused, refused,
          "status(" + f + ") = 3", "status(-1) = 3", "status(" + (f + 1) % 7 + ") = 0",
          "status(" + (f + 6) % 7 + ") = 0"));
    }
    String[] all = land;
    for (int f = 0; f < names.length; f++) {
      all = Edge.rows(all, f + 1 + " * " + found[f] + " = " + names[f]);
    }
    Edge.holds("Promise 49: which -1: all", Edge.rows(all, "status(-1) = 28", "status(0) = 1", "status(6) = 7"));
    Edge.holds("Promise 49: a few hundred", Edge.rows(land, "400 * letter(0) = FULL", "status(1) = 400",
        "status(-1) = 400"));
  }
}
