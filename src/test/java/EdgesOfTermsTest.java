/** Edges of the terms, and every refused call in a land of many things: nothing but status() changes by it. */
public final class EdgesOfTermsTest {
  /** Something of each sort, unlike what is at first. */
  private static final String[] MANY = {
    "text(\"road 2 to 4;brook 6;hedge 8 to 9;home 20;fetch 3;old at 3 near 4 odds 5;giant at 9 far 7 west\") = 7",
    "text(\"blind at 15 odds 11;letter 3;letter 9;letter 15;letter 6\") = 5",
    "change(1, 6, 1)", "change(2, 7, 1)", "hold(0, 1)", "hold(7, 2)", "seed(4711)", "hours(5)", "image()", "hours(3)",
    "walk(0, 4)", "take(2)", "hold(3, 0)", "sheet(0, 8, 3)", "sheet(2, 16, 5)", "write(0, 1, 3)", "write(2, 4, 2)",
    "write(2, 0, 9)", "fed(\"home 7;fetch 0;lad at 12\") = 24", "stuff(24, 0) = BEYOND"
  };
  /** As many of each sort as there may be, but for two sheets. */
  private static final String[] FULL = {
    "0..9: thrower(3, #)", "0..11: letter(#)", "0..9: hold(#, #)", "image()", "sheet(0, 8, 40)", "sheet(1, 16, 40)",
    "write(0, 39, 3)", "fed(\"" + " ".repeat(119) + "?\") = 120"
  };
  /** A promise, and calls that are refused in the land of many things. */
  private static final String[][] REFUSED = {
    {"2", "stuff(24, 1) = BEYOND", "stuff(-1, 1) = BEYOND", "stuff(3, 4) = BEYOND", "stuff(3, -1) = BEYOND"},
    {"3", "rule(0, 24) = BEYOND", "rule(0, -1) = BEYOND", "rule(1, 10) = BEYOND", "rule(1, -1) = BEYOND",
      "rule(2, 1) = BEYOND", "rule(-1, 1) = BEYOND"},
    {"4", "thrower(7, 12) = BEYOND", "thrower(-1, 12) = BEYOND", "thrower(1, 24) = BEYOND", "thrower(1, -1) = BEYOND",
      "thrower(1, 4) = STATE", "thrower(1, 9) = STATE", "thrower(1, 15) = STATE"},
    {"5", "of(3, 0) = BEYOND", "of(-1, 0) = BEYOND", "of(0, 9) = BEYOND", "of(0, -1) = BEYOND"},
    {"6", "change(3, 7, 1) = BEYOND", "change(-1, 7, 1) = BEYOND", "change(0, 1, 12) = BEYOND",
      "change(0, 8, 12) = BEYOND", "change(0, 9, 1) = BEYOND", "change(0, 0, 7) = BEYOND", "change(0, 2, 0) = BEYOND",
      "change(0, 3, 13) = BEYOND", "change(0, 4, 2) = BEYOND", "change(0, 5, 13) = BEYOND", "change(0, 6, 2) = BEYOND",
      "change(0, 7, 2) = BEYOND"},
    {"7", "walk(3, 12) = BEYOND", "walk(-1, 12) = BEYOND", "walk(0, 24) = BEYOND", "walk(0, -1) = BEYOND",
      "walk(0, 9) = STATE", "walk(1, 15) = STATE"},
    {"8", "told(3, 0, 0, 0) = BEYOND", "told(0, 2, 0, 0) = BEYOND", "told(0, 0, 2, 0) = BEYOND",
      "told(0, 0, 0, 24) = BEYOND"},
    {"9", "falls(3, 0, 0, true) = BEYOND", "falls(0, 2, 0, false) = BEYOND", "falls(0, 0, 24, true) = BEYOND"},
    {"10", "next(24) = BEYOND", "next(-1) = BEYOND", "next(20) = NONE", "next(6) = NONE", "next(23) = NONE"},
    {"11", "letter(24) = BEYOND", "letter(-1) = BEYOND"},
    {"12", "where(3) = BEYOND", "where(-1) = BEYOND"},
    {"13", "take(3) = BEYOND", "take(-1) = BEYOND"},
    {"14", "hours(0) = BEYOND", "hours(49) = BEYOND", "hours(-1) = BEYOND"},
    {"15", "letters(3) = BEYOND", "letters(-1) = BEYOND"},
    {"16", "odds(24, 3, 3) = BEYOND", "odds(3, 16, 3) = BEYOND", "odds(3, -1, 3) = BEYOND", "odds(3, 3, 24) = BEYOND"},
    {"17", "lost(24, 3) = BEYOND", "lost(3, 16) = BEYOND", "lost(3, -1) = BEYOND"},
    {"18", "likeliest(24, 3) = BEYOND", "likeliest(3, 16) = BEYOND", "likeliest(3, -1) = BEYOND"},
    {"19", "fewest(24) = BEYOND", "fewest(-1) = BEYOND", "fewest(6) = NONE", "fewest(23) = NONE"},
    {"20", "free(24) = BEYOND", "free(-1) = BEYOND", "free(6) = NONE", "free(23) = NONE"},
    {"21", "may(24, 3) = BEYOND", "may(3, 61) = BEYOND", "may(3, -1) = BEYOND"},
    {"22", "best(24, 3) = BEYOND", "best(3, 16) = BEYOND", "best(3, -1) = BEYOND"},
    {"23", "choose(3, 3) = BEYOND", "choose(0, 0) = BEYOND", "choose(0, 16) = BEYOND", "choose(2, 3) = STATE"},
    {"24", "plan(24, 3) = BEYOND", "plan(3, 0) = BEYOND", "plan(3, 9) = BEYOND"},
    {"25", "set(8) = BEYOND", "set(-1) = BEYOND", "set(13) = BEYOND"},
    {"26", "missed(24, 3) = BEYOND", "missed(3, 0) = BEYOND", "missed(3, 11) = BEYOND"},
    {"27", "stand(24, 3) = BEYOND", "stand(3, 0) = BEYOND", "stand(3, 11) = BEYOND"},
    {"28", "fetchFor(24, 3) = BEYOND", "fetchFor(3, 0) = BEYOND", "fetchFor(3, 11) = BEYOND"},
    {"29", "copies(24, 3) = BEYOND", "copies(3, 8) = BEYOND", "copies(3, -1) = BEYOND"},
    {"30", "whose(24, 3) = BEYOND", "whose(3, 24) = BEYOND", "whose(3, -1) = BEYOND"},
    {"31", "from(24, 3) = BEYOND", "from(3, 21) = BEYOND", "from(3, -1) = BEYOND"},
    {"32", "thief(24, 3) = BEYOND", "thief(3, 0) = BEYOND", "thief(3, 21) = BEYOND"},
    {"35", "feed(0, 0) = BEYOND", "feed(0, 5) = BEYOND", "feed(0, -1) = BEYOND"},
    {"38", "hold(10, 1) = BEYOND", "hold(-1, 1) = BEYOND", "hold(0, 3) = BEYOND", "hold(0, -2) = BEYOND"},
    {"39", "as(10, 0) = BEYOND", "as(0, 7) = BEYOND", "as(1, 0) = MISSING", "as(0, 2) = KIND", "as(3, 6) = KIND"},
    {"40", "sheet(4, 8, 2) = BEYOND", "sheet(0, 9, 2) = BEYOND", "sheet(0, 8, -1) = SIZE", "sheet(0, 0, -1) = SIZE",
      "sheet(0, 8, 41) = BEYOND", "sheet(0, 0, 41) = BEYOND"},
    {"41", "write(4, 0, 1) = BEYOND", "write(1, 0, 1) = MISSING", "write(0, 3, 1) = BEYOND",
      "write(0, -1, 1) = BEYOND"},
    {"42", "copy(4, 0, 0, 0, 1) = BEYOND", "copy(0, 0, -1, 0, 1) = BEYOND", "copy(0, 1, 1, 0, 1) = MISSING",
      "copy(0, 1, 2, 0, 1) = KIND", "copy(0, 1, 0, 0, 3) = BEYOND", "copy(0, 0, 0, 1, 3) = BEYOND",
      "copy(0, -1, 0, 0, 1) = BEYOND", "copy(0, 1, 0, -1, 1) = BEYOND", "copy(0, 1, 0, 0, -1) = BEYOND",
      "copy(0, 4, 0, 0, 0) = BEYOND"},
    {"43", "load(4) = BEYOND", "load(-1) = BEYOND", "load(1) = MISSING"},
    {"44", "judge(4, 0) = BEYOND", "judge(1, 0) = MISSING", "judge(0, 3) = BEYOND", "judge(0, -1) = BEYOND"},
    {"48", "count(8) = BEYOND", "count(-1) = BEYOND"},
    {"49", "status(7) = BEYOND", "status(-2) = BEYOND"},
  };
  /** A promise, and calls that are refused where there is as much as may be. */
  private static final String[][] TOO_MANY = {
    {"4", "thrower(0, 12) = FULL", "thrower(0, 0) = STATE", "thrower(7, 12) = BEYOND"},
    {"7", "walk(0, 9) = STATE", "walk(10, 12) = BEYOND"},
    {"11", "letter(12) = FULL", "letter(24) = BEYOND"},
    {"12", "where(12) = BEYOND"},
    {"13", "take(12) = BEYOND"},
    {"24", "plan(0, 1) = SIZE", "plan(0, 9) = BEYOND"},
    {"25", "set(1024) = BEYOND"},
    {"27", "stand(0, 1) = FULL", "stand(0, 11) = BEYOND"},
    {"35", "feed(0, 1) = FULL", "feed(0, 4) = FULL", "feed(0, 5) = BEYOND"},
    {"38", "hold(0, 10) = BEYOND", "hold(10, 0) = BEYOND"},
    {"39", "as(9, 2) = KIND"},
    {"41", "write(0, 40, 1) = BEYOND"},
    {"42", "copy(0, 1, 0, 0, 40) = BEYOND", "copy(0, 0, 0, 1, 40) = BEYOND", "copy(0, 0, 0, 0, 41) = BEYOND",
      "copy(0, 0, 1, 0, 40) = KIND"},
  };
  /** A promise, and questions that are answered in the land of many things. */
  private static final String[][] ASKED = {
    {"5", "of(0, 1) = 4"}, {"8", "told(0, 0, 0, 12) = 4"}, {"9", "falls(1, 1, 0, false) = 0"}, {"10", "next(5) = 0"},
    {"12", "where(2) = 6"}, {"15", "letters(1)"}, {"16", "odds(4, 15, 20)"}, {"17", "lost(4, 15)"},
    {"18", "likeliest(4, 15)"}, {"19", "fewest(20) = 0"}, {"20", "free(20) = 0"}, {"21", "may(4, 60)"},
    {"22", "best(4, 15)"}, {"23", "choose(0, 15)"}, {"24", "plan(4, 8)"}, {"26", "missed(4, 10)"},
    {"27", "stand(4, 10)"}, {"28", "fetchFor(4, 10)"}, {"29", "copies(4, 7)"}, {"30", "whose(8, 12) = {0}"},
    {"31", "from(4, 20)"}, {"32", "thief(4, 20)"}, {"33", "gifts()"}, {"39", "as(7, 2) = 2"}, {"44", "judge(0, 0) = 1"},
    {"48", "count(5) = 24"}, {"49", "status(-1) = 1"}
  };

  public static void main(String[] args) {
    findings();
    zIsNoFinding();
    sets();
    atMost();
    eachOnACellOfItsOwn();
    inALandOfManyThings("nothing but status() changes by what is refused", MANY, REFUSED);
    inALandOfManyThings("nothing but status() changes by one too many", FULL, TOO_MANY);
    inALandOfManyThings("nothing changes by what is asked", MANY, ASKED);
    Edge.end();
  }

  private static void inALandOfManyThings(String sentence, String[] land, String[][] table) {
    for (String[] calls : table) {
      for (int i = 1; i < calls.length; i++) {
        Edge.holds("Promise " + calls[0] + ": " + sentence, Edge.rows(land, calls[i]));
      }
    }
  }

  private static void findings() {
    Edge.holds("Terms 0: LOW is BEYOND", "stuff(24, 0) = -1000001");
    Edge.holds("Terms 0: LOW - 1 is FULL", "12 * letter(0)", "letter(0) = -1000002");
    Edge.holds("Terms 0: LOW - 2 is KIND", "thrower(0, 5)", "hold(0, 0)", "as(0, 1) = -1000003");
    Edge.holds("Terms 0: LOW - 3 is NONE", "undo() = -1000004");
    Edge.holds("Terms 0: LOW - 4 is STATE", "thrower(0, 5)", "thrower(0, 5) = -1000005");
    Edge.holds("Terms 0: LOW - 5 is MISSING", "as(0, 0) = -1000006");
    Edge.holds("Terms 0: LOW - 6 is SIZE", "sheet(0, 8, -1) = -1000007");
    Edge.holds("Terms 0: in longs, too", "odds(0, 16, 0) = -1000001", "lost(0, 16) = -1000001",
        "best(0, 16) = -1000001", "copies(0, 8) = -1000001");
  }

  private static void zIsNoFinding() {
    for (int z = -1000008; z <= -1000000; z++) {
      Edge.holds("Terms 0: z may be any int, that is no finding: " + z, "seed(" + z + ") = 1", "count(6) = " + z,
          "seed(1) = " + z, "-1..6: status(#) = 0");
    }
  }

  private static void sets() {
    Edge.holds("Terms 0: sets are told as bits: of CELLS", "may(0, 0) = 1", "may(23, 0) = 8388608", "from(0, 0) = 1",
        "from(23, 0) = 8388608", "thief(0, 1) = 8388606");
    Edge.holds("Terms 0: sets are told as bits: of THROWERS", "0..9: thrower(0, #)", "set(512) = 1", "of(9, 6) = 1",
        "whose(11, 0) = 704", "whose(1, 0) = 1");
    Edge.holds("Terms 0: quotients are cut", "thrower(6, 4)", "change(0, 2, 9)", "told(0, 0, 0, 0) = 4",
        "change(0, 2, 1)", "told(0, 0, 0, 0) = 0");
  }

  private static void atMost() {
    Edge.holds("Terms 1: THROWERS, at most 10", "0..9: thrower(0, #) = #", "thrower(0, 10) = FULL", "count(1) = 10");
    Edge.holds("Terms 1: HOUR, 9999 at most", "208 * hours(48)", "hours(15) = 0", "hours(1) = STATE",
        "count(0) = 9999");
    Edge.holds("Terms 2: LETTERS, at most 12", "0..11: letter(23) = #", "letter(23) = FULL", "count(2) = 12");
    Edge.holds("Terms 3: THE TAPE, bytes, at most 120", "30 * feed(0, 4)", "feed(0, 1) = FULL", "count(5) = 120");
    Edge.holds("Terms 3: SHEETS 0 to 3, at most 40 numbers", "0..3: sheet(#, 32, 40) = 40", "sheet(3, 32, 41) = BEYOND",
        "sheet(4, 32, 40) = BEYOND", "0..3: load(#) = 24");
    Edge.holds("Terms 3: SPOTS 0 to 9", "thrower(0, 5)", "0..9: hold(#, 0) = 1", "hold(10, 0) = BEYOND",
        "count(7) = 10");
    Edge.holds("Terms 2: ALL: 12 to the 15", "odds(0, 15, 0) = 15407021574586368");
  }

  private static void eachOnACellOfItsOwn() {
    Edge.holds("Terms 1: each on a CELL of its own: thrower()", "thrower(0, 5)", "thrower(0, 5) = STATE",
        "count(1) = 1");
    Edge.holds("Terms 1: each on a CELL of its own: walk()", "thrower(0, 5)", "thrower(0, 6)", "walk(1, 5) = STATE",
        "of(1, 1) = 6");
    Edge.holds("Terms 1: each on a CELL of its own: text()", "thrower(0, 5)", "text(\"lad at 5\") = -8",
        "count(1) = 1");
    Edge.holds("Terms 1: each on a CELL of its own: stand()", "rule(1, 0)", "thrower(6, 22)", "change(0, 7, 1)",
        "stand(22, 1) = 0", "walk(0, 0)", "stand(22, 1) = 22");
  }
}
