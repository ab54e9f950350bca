/** Edges of promises 35 to 37: texts. */
public final class EdgesOfTextsTest {
  public static void main(String[] args) {
    feed();
    feedFull();
    wipe();
    nothingOnTheTape();
    tokens();
    numbers();
    stuffItems();
    homeAndFetchItems();
    throwerItems();
    throwerOrder();
    takenCells();
    letterItems();
    items();
    bytesThatBeginNoToken();
    otherWords();
    endsTooEarly();
    theEleventhThrower();
    theThirteenthLetter();
    aFaultChangesNothing();
    Edge.end();
  }

  private static String blanks(int n) {
    return " ".repeat(n);
  }

  /** A text is refused at a place: nothing changes but that THE TAPE is empty, and it is no finding. */
  private static void fault(String sentence, String text, int place) {
    Edge.holds("Promise 37: " + sentence + ", \"" + text + "\"", "text(\"" + text + "\") = " + (-1 - place),
        "count(5) = 0", "-1..6: status(#) = 0");
  }

  private static void taken(String sentence, String text, int items, String... then) {
    String[] rows = new String[then.length + 2];
    rows[0] = "text(\"" + text + "\") = " + items;
    rows[1] = "count(5) = 0";
    System.arraycopy(then, 0, rows, 2, then.length);
    Edge.holds("Promise 37: " + sentence + ", \"" + text + "\"", rows);
  }

  private static void feed() {
    Edge.range("Promise 35: BEYOND, n 1 to 4", 1, 4, "feed(5, #)");
    Edge.holds("Promise 35: how many it has", "feed(0, 1) = 1", "feed(0, 2) = 3", "feed(0, 3) = 6", "feed(0, 4) = 10",
        "count(5) = 10");
    Edge.holds("Promise 35: the n lowest bytes: 4, the highest first", "feed(1752132965, 4) = 4", "feed(8247, 2) = 6",
        "text() = 1", "rule(0, 0) = 7");
    Edge.holds("Promise 35: the n lowest bytes: 3, the highest first", "feed(2137809252, 3) = 3",
        "feed(543257655, 4) = 7", "text() = 1", "of(0, 0) = 6", "of(0, 1) = 7");
    Edge.holds("Promise 35: the n lowest bytes: 2 and 1, of a number below 0", "feed(-38801, 2) = 2",
        "feed(-147, 1) = 3", "feed(-155, 1) = 4", "feed(-57289, 2) = 6", "text() = 1", "rule(0, 0) = 7");
    Edge.holds("Promise 35: a byte is 0 to 255: 4 of -1", "feed(-1, 4) = 4", "text() = -1");
    Edge.holds("Promise 35: a refused call feeds nothing", "fed(\"home\") = 4", "feed(32, 0) = BEYOND",
        "feed(32, 5) = BEYOND", "fed(\" 7\") = 6", "text() = 1", "rule(0, 0) = 7");
  }

  private static void feedFull() {
    Edge.holds("Promise 35: at most 120, by 4 from 116", "fed(\"" + blanks(116) + "\") = 116", "feed(0, 4) = 120",
        "feed(0, 1) = FULL", "count(5) = 120");
    for (int n = 1; n <= 4; n++) {
      Edge.holds("Promise 35: FULL, " + n + " more than 120, and one fewer",
          "fed(\"" + blanks(121 - n) + "\") = " + (121 - n), "feed(0, " + n + ") = FULL", "count(5) = " + (121 - n),
          n == 1 ? "count(5) = 120" : "feed(0, " + (n - 1) + ") = 120", "1..4: feed(0, #) = FULL");
    }
    Edge.holds("Promise 35: BEYOND ahead of FULL", "fed(\"" + blanks(120) + "\") = 120", "feed(0, 0) = BEYOND",
        "feed(0, 5) = BEYOND", "feed(0, -1) = BEYOND", "feed(0, MAX) = BEYOND", "feed(0, MIN) = BEYOND",
        "feed(0, 1) = FULL");
    Edge.holds("Promise 35: a refused call feeds no part of it", "fed(\"" + blanks(112) + "home 7\") = 118",
        "feed(2105376, 3) = FULL", "text() = 1", "rule(0, 0) = 7");
    Edge.holds("Promise 35: room again behind text() and wipe()", "fed(\"" + blanks(120) + "\") = 120", "text() = -121",
        "feed(0, 4) = 4", "wipe() = 4", "fed(\"" + blanks(120) + "\") = 120", "wipe() = 120", "feed(0, 1) = 1");
  }

  private static void wipe() {
    Edge.holds("Promise 36: THE TAPE is empty already", "wipe() = 0", "wipe() = 0", "count(5) = 0");
    Edge.holds("Promise 36: how many it had: one, and all there may be", "feed(0, 1) = 1", "wipe() = 1", "wipe() = 0",
        "fed(\"" + blanks(120) + "\")", "wipe() = 120", "count(5) = 0", "wipe() = 0");
    Edge.holds("Promise 36: nothing of it is left", "fed(\"home 5\") = 6", "wipe() = 6", "text() = -1",
        "text(\"fetch 1\") = 1", "rule(0, 0) = 23");
  }

  private static void nothingOnTheTape() {
    Edge.holds("Promise 37: it ends too early, an empty TAPE", "text() = -1", "count(5) = 0", "-1..6: status(#) = 0");
    fault("it ends too early, one blank", " ", 1);
    fault("it ends too early, 120 blanks", blanks(120), 120);
    Edge.holds("Promise 37: THE TAPE is empty then", "text(\"home 5\") = 1", "count(5) = 0", "wipe() = 0",
        "text() = -1", "rule(0, 0) = 5");
    Edge.holds("Promise 37: nothing of an earlier TEXT is read: a WORD", "text(\"homes 5\") = -1",
        "text(\"home\") = -5", "text(\"lad at 5 wester\") = -10", "text(\"lad at 5 west\") = 1");
    Edge.holds("Promise 37: nothing of an earlier TEXT is read: a NUMBER", "text(\"home 55\") = -6",
        "text(\"home 5\") = 1", "rule(0, 0) = 5");
    Edge.holds("Promise 37: nothing of an earlier TEXT is read: a SIGN, a byte", "text(\"home 5;?\") = -8",
        "text(\"home 6\") = 1", "text(\"home 7??\") = -7", "text(\"home 8 \") = 1", "rule(0, 0) = 8");
    taken("as many bytes as there may be", blanks(60) + "home 5" + blanks(54), 1, "rule(0, 0) = 5");
    String most = "home 1;".repeat(17);
    taken("as many ITEMS as there may be", most.substring(0, most.length() - 1), 17, "rule(0, 0) = 1");
    fault("as many bytes as there may be, and it ends too early", most + ";", 119);
  }

  private static void tokens() {
    taken("no blanks between TOKENS where none is needed", "brook3to5;lad at7near3far4odds5west", 2, "stuff(3, 0) = 1",
        "stuff(5, 0) = 1", "of(0, 1) = 7", "of(0, 2) = 3", "of(0, 3) = 4", "of(0, 5) = 5", "of(0, 4) = 0");
    taken("many blanks between TOKENS", "   brook   3   to   5   ;   home   7   ", 2, "stuff(3, 0) = 1",
        "rule(0, 0) = 7");
    fault("TOKENS as long as can be: two WORDS are one", "ladat 7", 0);
    fault("TOKENS as long as can be: a WORD and a letter", "homes 7", 0);
    fault("TOKENS as long as can be: a WORD and the first letter", "homea 7", 0);
    fault("TOKENS as long as can be: a WORD and the last letter", "homez 7", 0);
    fault("TOKENS as long as can be: as many letters as there may be", "a".repeat(120), 0);
    fault("TOKENS as long as can be: to and a letter", "brook 3 too 5", 8);
    fault("TOKENS as long as can be: at and a letter", "lad att 7", 4);
    fault("TOKENS as long as can be: a NUMBER of more digits", "home 77", 5);
    fault("a blank parts a WORD", "ho me 7", 0);
    fault("a blank parts a NUMBER", "home 1 7", 7);
    fault("a WORD begins another one", "hom 7", 0);
    fault("a WORD, its last letter another one", "homf 7", 0);
    fault("a WORD, its first letter another one", "gome 7", 0);
  }

  private static void numbers() {
    taken("NUMBERS: rows of digits, by their value", "home 007;fetch 0000000000000000000000000000009", 2,
        "rule(0, 0) = 7", "rule(1, 0) = 9");
    fault("NUMBERS, 999 at most: 999", "home 999", 5);
    fault("NUMBERS, 999 at most: 1000", "home 1000", 5);
    fault("NUMBERS, 999 at most: 2 to the 32, and 3", "home 4294967299", 5);
    fault("NUMBERS, 999 at most: 2 to the 64, and 3", "home 18446744073709551619", 5);
    fault("NUMBERS, 999 at most: as many digits as there may be", "home " + "9".repeat(115), 5);
    fault("NUMBERS have no sign", "home -1", 5);
    fault("NUMBERS have no point", "home 1.5", 6);
  }

  private static void stuffItems() {
    String[] words = {"grass", "brook", "hedge", "road"};
    for (int v = 0; v <= 3; v++) {
      String word = words[v];
      int at = word.length() + 1;
      String[] each = {"stuff(0, 3)", "stuff(23, 3)", "text(\"" + word + " 0;" + word + " 23\") = 2",
          "stuff(0, 0) = " + v, "stuff(23, 0) = " + v, "stuff(1, 0) = 0", "stuff(22, 0) = 0"};
      Edge.holds("Promise 37: " + word + ", a NUMBER 0 to 23", each);
      fault(word + ", a NUMBER that isn't as told: 24", word + " 24", at);
      fault(word + ", a NUMBER that isn't as told: none", word + " to 5", at);
      fault(word + ", a NUMBER that isn't as told: of to, 24", word + " 5 to 24", at + 5);
      fault(word + ", a NUMBER that isn't as told: of to, less", word + " 5 to 4", at + 5);
      Edge.holds("Promise 37: " + word + ", these CELLS, to: not less", "text(\"" + word + " 5 to 5\") = 1",
          "stuff(4, 0) = 0", "stuff(5, 0) = " + v, "stuff(6, 0) = 0");
    }
    taken("these CELLS, all there are", "road 0 to 23", 1, "0..23: stuff(#, 0) = 3");
    taken("these CELLS, none beside them", "hedge 7 to 9", 1, "stuff(6, 0) = 0", "7..9: stuff(#, 0) = 2",
        "stuff(10, 0) = 0");
    taken("these CELLS, grass where there was none", "road 0 to 23;grass 22 to 23", 2, "stuff(21, 0) = 3",
        "stuff(22, 0) = 0", "stuff(23, 0) = 0");
    fault("perhaps to, but once", "road 5 to 6 to 7", 12);
    fault("perhaps to, and nothing else", "road 5 6", 7);
    fault("perhaps to, and no near", "road 5 near 6", 7);
  }

  private static void homeAndFetchItems() {
    taken("home and a NUMBER: 0", "home 0", 1, "rule(0, 5) = 0");
    taken("home and a NUMBER: 23", "home 5;home 23", 2, "rule(0, 5) = 23");
    fault("home and a NUMBER: 24", "home 24", 5);
    fault("home and no NUMBER", "home home", 5);
    fault("home has no to", "home 3 to 5", 7);
    taken("fetch and a NUMBER: 0", "fetch 0", 1, "rule(1, 5) = 0");
    taken("fetch and a NUMBER: 9", "fetch 9", 1, "rule(1, 5) = 9");
    fault("fetch and a NUMBER: 10", "fetch 10", 6);
    fault("fetch and no NUMBER", "fetch ;", 6);
  }

  private static void throwerItems() {
    String[] words = {"thrower", "strong", "shaky", "giant", "blind", "old", "lad"};
    for (int kind = 0; kind <= 6; kind++) {
      String word = words[kind];
      taken("a new THROWER, all as at first", word + " at 0;" + word + " at 23", 2, "of(0, 0) = " + kind,
          "of(0, 1) = 0", "of(0, 2) = 2", "of(0, 3) = 5", "of(0, 4) = 1", "of(0, 5) = 8", "6..8: of(0, #) = 0",
          "of(1, 0) = " + kind, "of(1, 1) = 23", "of(2, 0) = BEYOND");
      fault("at and a CELL: 24", word + " at 24", word.length() + 4);
      fault("at must be there", word + " 5", word.length() + 1);
    }
    taken("near, far and odds, the least, and west", "old at 5 near 1 far 1 odds 0 west", 1, "of(0, 2) = 1",
        "of(0, 3) = 1", "of(0, 4) = 0", "of(0, 5) = 0");
    taken("near, far and odds, the most", "old at 5 near 9 far 12 odds 12", 1, "of(0, 2) = 9", "of(0, 3) = 12",
        "of(0, 4) = 1", "of(0, 5) = 12");
    fault("near and a NUMBER, 1 to 9: 0", "old at 5 near 0", 14);
    fault("near and a NUMBER, 1 to 9: 10", "old at 5 near 10", 14);
    fault("far and a NUMBER, 1 to 12: 0", "old at 5 far 0", 13);
    fault("far and a NUMBER, 1 to 12: 13", "old at 5 far 13", 13);
    fault("odds and a NUMBER, 0 to 12: 13", "old at 5 odds 13", 14);
    fault("near and no NUMBER", "old at 5 near far 3", 14);
    fault("at and no NUMBER", "old at west", 7);
  }

  private static void throwerOrder() {
    taken("perhaps near, the others not", "lad at 5 near 7", 1, "of(0, 2) = 7", "of(0, 3) = 5", "of(0, 4) = 1",
        "of(0, 5) = 8");
    taken("perhaps far, the others not", "lad at 5 far 7", 1, "of(0, 2) = 2", "of(0, 3) = 7", "of(0, 4) = 1",
        "of(0, 5) = 8");
    taken("perhaps odds, the others not", "lad at 5 odds 7", 1, "of(0, 2) = 2", "of(0, 3) = 5", "of(0, 4) = 1",
        "of(0, 5) = 7");
    taken("perhaps west, the others not", "lad at 5 west", 1, "of(0, 2) = 2", "of(0, 3) = 5", "of(0, 4) = 0",
        "of(0, 5) = 8");
    fault("near can't stand behind far", "lad at 5 far 7 near 7", 15);
    fault("near can't stand behind odds", "lad at 5 odds 7 near 7", 16);
    fault("near can't stand behind west", "lad at 5 west near 7", 14);
    fault("near can't stand twice", "lad at 5 near 7 near 7", 16);
    fault("far can't stand behind odds", "lad at 5 odds 7 far 7", 16);
    fault("far can't stand behind west", "lad at 5 west far 7", 14);
    fault("far can't stand twice", "lad at 5 far 7 far 7", 15);
    fault("odds can't stand behind west", "lad at 5 west odds 7", 14);
    fault("odds can't stand twice", "lad at 5 odds 7 odds 7", 16);
    fault("west can't stand twice", "lad at 5 west west", 14);
    fault("east is no WORD", "lad at 5 east", 9);
    fault("to can't stand there", "lad at 5 to 6", 9);
    fault("a NUMBER can't stand there", "lad at 5 6", 9);
  }

  private static void takenCells() {
    Edge.holds("Promise 37: a CELL without a THROWER", "thrower(0, 5)", "text(\"lad at 5\") = -8",
        "text(\"lad at 4\") = 1", "count(1) = 2");
    Edge.holds("Promise 37: a CELL without a THROWER, ILL ones count", "thrower(0, 5)", "change(0, 7, 1)",
        "text(\"lad at 5\") = -8");
    fault("a CELL without a THROWER, those of ITEMS ahead counted", "lad at 5;old at 5", 16);
    taken("a CELL beside those of ITEMS ahead", "lad at 5;old at 6;old at 4", 3, "count(1) = 3");
    Edge.holds("Promise 37: ITEMS of a refused text do not count", "text(\"lad at 5;old at 5\") = -17",
        "text(\"old at 5\") = 1", "of(0, 0) = 5", "count(1) = 1");
  }

  private static void letterItems() {
    taken("letter and a NUMBER: 0 and 23", "letter 0;letter 23", 2, "where(0) = 0", "where(1) = 23", "count(2) = 2");
    taken("letter and a NUMBER, several on a CELL", "letter 5;letter 5", 2, "where(0) = 5", "where(1) = 5");
    fault("letter and a NUMBER: 24", "letter 24", 7);
    fault("letter and no NUMBER", "letter at 5", 7);
    fault("letter has no to", "letter 5 to 6", 9);
  }

  private static void items() {
    taken("one ITEM", "home 3", 1, "rule(0, 0) = 3");
    taken("item by item: the later counts", "home 3;home 4;fetch 1;fetch 0;road 5;hedge 5", 6, "rule(0, 0) = 4",
        "rule(1, 5) = 0", "stuff(5, 0) = 2");
    fault("the first SIGN ; has no ITEM ahead", ";home 3", 0);
    fault("two SIGNS ; have no ITEM between them", "home 3;;home 4", 7);
    fault("no SIGN ; between two ITEMS", "home 3 home 4", 7);
    fault("a SIGN ; where a NUMBER should be", "home ;", 5);
    fault("the first FAULT of several", "home 24;fetch 77;stone", 5);
    Edge.holds("Promise 37: ITEMS on top of what there is", "thrower(0, 3)", "letter(4)",
        "text(\"lad at 5;letter 6\") = 2", "of(1, 0) = 6", "where(1) = 6", "count(1) = 2", "count(2) = 2");
  }

  private static void bytesThatBeginNoToken() {
    fault("a byte that begins no TOKEN: A", "Home 3", 0);
    fault("a byte that begins no TOKEN: Z", "home 3;Zed", 7);
    fault("a byte that begins no TOKEN, in a WORD", "hoMe 3", 0);
    fault("a byte that begins no TOKEN, behind a WORD", "home_3", 4);
    fault("a byte that begins no TOKEN, behind a NUMBER", "home 3,", 6);
    fault("a byte that begins no TOKEN, just below a", "home 3`", 6);
    fault("a byte that begins no TOKEN, just above z", "home 3{", 6);
    fault("a byte that begins no TOKEN, just below 0", "home /", 5);
    fault("a byte that begins no TOKEN, just above 9", "home :", 5);
    fault("a byte that begins no TOKEN, just above ;", "home 3<", 6);
    fault("a byte that begins no TOKEN, just below a blank", "home 3" + (char) 31, 6);
    fault("a byte that begins no TOKEN, just above a blank", "home 3!", 6);
    fault("a byte that begins no TOKEN: 0", (char) 0 + "home 3", 0);
    fault("a byte that begins no TOKEN: 9", "home" + (char) 9 + "3", 4);
    fault("a byte that begins no TOKEN: 127", "home 3" + (char) 127, 6);
    fault("a byte that begins no TOKEN: 128", "home 3" + (char) 128, 6);
    fault("a byte that begins no TOKEN: 160", "home" + (char) 160 + "3", 4);
    fault("a byte that begins no TOKEN: 255", "home " + (char) 255, 5);
    fault("a byte that begins no TOKEN, but behind the first FAULT", "home 24 ?", 5);
  }

  private static void otherWords() {
    fault("another WORD first", "stone 3", 0);
    fault("another WORD first, of one letter", "h 3", 0);
    fault("a NUMBER first", "3", 0);
    for (String word : new String[] {"to", "at", "near", "far", "odds", "west"}) {
      fault("a WORD that begins no ITEM", word + " 3", 0);
      fault("a WORD that begins no ITEM, behind one", "home 3;" + word, 7);
    }
    fault("an ITEM's WORD behind another ITEM", "fetch 3 lad at 5", 8);
    fault("a WORD where a NUMBER should be", "home three", 5);
    fault("another WORD behind an ITEM", "home 3 stone", 7);
  }

  private static void endsTooEarly() {
    String[] texts = {"home", "home ", "fetch", "fetch   ", "letter", "letter ", "grass", "brook ", "hedge 3 to",
        "road 3 to ", "thrower", "thrower ", "lad at", "lad at ", "lad at 3 near", "lad at 3 near ", "lad at 3 far",
        "lad at 3 far ", "lad at 3 odds", "lad at 3 near 3 odds ", "home 3;", "home 3; ", " home 3 ;  ",
        "lad at 3;lad at"};
    for (String text : texts) {
      fault("it ends too early: how many bytes there are, blanks, too", text, text.length());
    }
  }

  private static void theEleventhThrower() {
    Edge.holds("Promise 37: the WORD of an 11th THROWER: its own", "0..9: thrower(0, #)", "text(\"lad at 10\") = -1",
        "text(\"home 3;  giant\") = -10", "text(\"home 3;old\") = -8", "rule(0, 0) = 23", "count(1) = 10");
    Edge.holds("Promise 37: the WORD of a 10th THROWER is none", "0..8: thrower(0, #)",
        "text(\"lad at 10;lad at 11\") = -11", "count(1) = 9", "text(\"lad at 10\") = 1", "count(1) = 10");
    Edge.holds("Promise 37: the WORD of an 11th THROWER, ahead of its NUMBER", "0..9: thrower(0, #)",
        "text(\"blind at 77\") = -1", "text(\"shaky 5\") = -1", "text(\"strong at 5\") = -1", "text(\"thrower\") = -1");
    Edge.holds("Promise 37: ten by texts alone",
        "text(\"lad at 0;lad at 1;lad at 2;lad at 3;lad at 4;lad at 5;lad at 6\") = 7",
        "text(\"lad at 7;lad at 8;lad at 9;lad at 10\") = -28", "count(1) = 7",
        "text(\"lad at 7;lad at 8;lad at 9\") = 3", "of(9, 1) = 9", "text(\"lad at 10\") = -1");
  }

  private static void theThirteenthLetter() {
    Edge.holds("Promise 37: the WORD of a 13th LETTER: its own", "0..11: letter(#)", "text(\"letter 5\") = -1",
        "text(\"home 3;  letter\") = -10", "text(\"letter 77\") = -1", "count(2) = 12", "rule(0, 0) = 23");
    Edge.holds("Promise 37: the WORD of a 12th LETTER is none", "0..10: letter(#)", "text(\"letter 5;letter 6\") = -10",
        "count(2) = 11", "text(\"letter 5\") = 1", "where(11) = 5");
    Edge.holds("Promise 37: twelve by texts alone",
        "text(\"letter 0;letter 1;letter 2;letter 3;letter 4;letter 5\") = 6",
        "text(\"letter 6;letter 7;letter 8;letter 9;letter 10;letter 11;letter 12\") = -57", "count(2) = 6",
        "text(\"letter 6;letter 7;letter 8;letter 9;letter 10;letter 11\") = 6", "where(11) = 11");
  }

  private static void aFaultChangesNothing() {
    Edge.holds("Promise 37: with a FAULT nothing changes but THE TAPE", "thrower(0, 3)", "letter(4)", "stuff(6, 2)",
        "hold(2, 0)", "image()", "hours(2)", "text(\"brook 0 to 23;home 4;fetch 6;lad at 5;letter 3;road 24\") = -53",
        "stuff(0, 0) = 0", "stuff(6, 0) = 2", "rule(0, 0) = 23", "rule(1, 0) = 2", "count(1) = 1", "count(2) = 1",
        "count(5) = 0");
    Edge.holds("Promise 37: with a FAULT in the last byte", "text(\"home 4;fetch 6;\") = -16", "rule(0, 0) = 23",
        "rule(1, 0) = 2");
    Edge.holds("Promise 37: no finding, though a FAULT", "text(\"stone\") = -1", "text(\"home 24\") = -6",
        "-1..6: status(#) = 0");
  }
}
