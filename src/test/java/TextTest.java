/** Promises 35 to 37: texts. */
public final class TextTest {
  public static void main(String[] args) {
    feed();
    feedFull();
    wipe();
    items();
    throwersOfTexts();
    itemByItem();
    blanks();
    numbers();
    tokensAsLongAsCanBe();
    endsTooEarly();
    tokensThatCannotStand();
    bytesThatBeginNoToken();
    cellsThatAreTaken();
    theEleventhThrower();
    theThirteenthLetter();
    nothingChangesByAFault();
    Due.end();
  }

  private static void fault(String text, int place) {
    StonePost x = new StonePost();
    Due.is("text \"" + text + "\"", Due.text(x, text), -1 - place);
    Due.is("the tape behind \"" + text + "\"", x.count(5), 0);
    Due.is("no finding", x.status(-1), 0);
  }

  private static void feed() {
    StonePost x = new StonePost();
    Due.is("feed, 1", x.feed(0x64636261, 1), 1);
    Due.is("feed, 2", x.feed('b', 1), 2);
    x.wipe();
    Due.is("highest first", x.feed(0x686f6d65, 4), 4);
    Due.is("two", x.feed(0x7f7f2039, 2), 6);
    Due.is("home 9", x.text(), 1);
    Due.is("HOME", x.rule(0, 0), 9);
    Due.is("three", x.feed(0x7f6c6164, 3), 3);
    Due.is("one", x.feed(-1 << 8 | ' ', 1), 4);
    Due.is("four", x.feed(0x61743320, 4), 8);
    Due.is("lad at3 ", x.text(), 1);
    Due.is("CELL", x.of(0, 1), 3);
    for (int w : new int[] {0, 5, -1, Integer.MIN_VALUE, Integer.MAX_VALUE}) {
      Due.is("feed(0, " + w + ")", x.feed(0, w), Due.BEYOND);
    }
    Due.is("nothing fed", x.count(5), 0);
  }

  private static void feedFull() {
    StonePost x = new StonePost();
    for (int i = 1; i <= 29; i++) {
      Due.is("feed", x.feed(0x20202020, 4), 4 * i);
    }
    Due.is("to 118", x.feed(0x2020, 2), 118);
    Due.is("beyond, though full", x.feed(0, 5), Due.BEYOND);
    Due.is("no room for three", x.feed(0x202020, 3), Due.FULL);
    Due.is("nothing fed", x.count(5), 118);
    Due.is("to 120", x.feed(0x2020, 2), 120);
    Due.is("full", x.feed(32, 1), Due.FULL);
    Due.is("120 blanks", x.text(), -121);
    Due.is("empty", x.count(5), 0);
    Due.is("room again", x.feed(32, 1), 1);
  }

  private static void wipe() {
    StonePost x = new StonePost();
    Due.is("wipe()", x.wipe(), 0);
    Due.feed(x, "home 24");
    Due.is("wipe()", x.wipe(), 7);
    Due.is("wipe()", x.wipe(), 0);
    Due.is("count(5)", x.count(5), 0);
    Due.is("behind it", Due.text(x, "home 2"), 1);
    Due.is("HOME", x.rule(0, 2), 2);
  }

  private static void items() {
    StonePost x = new StonePost();
    String text = "road 0 to 23;brook 3;hedge 7 to 9;grass 22 to 22;home 11;fetch 9;letter 4;letter 0";
    Due.is("items", Due.text(x, text), 8);
    for (int cell = 0; cell < 24; cell++) {
      int due = cell == 3 ? 1 : cell >= 7 && cell <= 9 ? 2 : cell == 22 ? 0 : 3;
      Due.is("stuff(" + cell + ")", x.stuff(cell, 0), due);
    }
    Due.is("HOME", x.rule(0, 0), 11);
    Due.is("FETCH", x.rule(1, 0), 9);
    Due.is("where(0)", x.where(0), 4);
    Due.is("where(1)", x.where(1), 0);
    Due.is("count(5)", x.count(5), 0);
    Due.is("one item", Due.text(x, "home 0"), 1);
    Due.is("edges", Due.text(x, "fetch 0;home 23;grass 0;letter 23;hedge 23;road 0 to 0"), 6);
    Due.is("HOME", x.rule(0, 0), 23);
    Due.is("stuff(23)", x.stuff(23, 0), 2);
    Due.is("stuff(0)", x.stuff(0, 0), 3);
    Due.is("the third letter", x.where(2), 23);
  }

  private static void throwersOfTexts() {
    StonePost x = new StonePost();
    String text = "thrower at 0;strong at 1 near 9;shaky at 2 far 12;giant at 3 odds 12;blind at 4 west";
    Due.is("five", Due.text(x, text), 5);
    Due.is("two more", Due.text(x, "old at 23 near 1 far 1 odds 0 west;lad at 22 near 3 odds 4"), 2);
    int[][] due = {{0, 0, 2, 5, 1, 8}, {1, 1, 9, 5, 1, 8}, {2, 2, 2, 12, 1, 8}, {3, 3, 2, 5, 1, 12},
        {4, 4, 2, 5, 0, 8}, {5, 23, 1, 1, 0, 0}, {6, 22, 3, 5, 1, 4}};
    for (int t = 0; t < due.length; t++) {
      for (int what = 0; what <= 8; what++) {
        Due.is("of(" + t + ", " + what + ")", x.of(t, what), what < 6 ? due[t][what] : 0);
      }
    }
    Due.is("count(1)", x.count(1), 7);
  }

  private static void itemByItem() {
    StonePost x = new StonePost();
    Due.is("the later counts", Due.text(x, "home 3;home 4;brook 2 to 8;grass 5;fetch 1;fetch 7"), 6);
    Due.is("HOME", x.rule(0, 0), 4);
    Due.is("FETCH", x.rule(1, 0), 7);
    Due.is("stuff(5)", x.stuff(5, 0), 0);
    Due.is("stuff(6)", x.stuff(6, 0), 1);
  }

  private static void blanks() {
    StonePost x = new StonePost();
    Due.is("none needed", Due.text(x, "brook3to5;home7;thrower at9near3far4odds5west;letter0"), 4);
    Due.is("many", Due.text(x, "   brook   3  to  5  ;  home  7  ;fetch 1  "), 3);
    Due.is("west", x.of(0, 4), 0);
    fault("brook3 to5west", 10);
    fault("home 7 7", 7);
    fault("home 1 1", 7);
    fault("  ho me 7", 2);
    fault("thrower at 9near3far4odds5westx", 26);
    fault("throwerat9", 0);
  }

  private static void numbers() {
    StonePost x = new StonePost();
    Due.is("rows of digits", Due.text(x, "home 007;fetch 000000000000000000009;letter 00"), 3);
    Due.is("HOME", x.rule(0, 0), 7);
    Due.is("FETCH", x.rule(1, 0), 9);
    fault("home 999", 5);
    fault("home 1000", 5);
    fault("home 4294967296", 5);
    fault("home 18446744073709551617", 5);
    fault("fetch 99999999999999999999", 6);
    fault("home -1", 5);
    fault("home +1", 5);
    fault("home 1.", 6);
  }

  private static void tokensAsLongAsCanBe() {
    fault("homes 3", 0);
    fault("hom 3", 0);
    fault("lettera 3", 0);
    fault("roadto 3", 0);
    fault("brook 3 tor 4", 8);
    fault("brook 3 t 4", 8);
    fault("lad att 4", 4);
    fault("lad at 4 nearly 4", 9);
    fault("lad at 4 farther 4", 9);
    fault("lad at 4 odd 4", 9);
    fault("lad at 4 wes", 9);
    fault("lad at 4 wests", 9);
    fault("throwers at 4", 0);
    fault("homez 3", 0);
    fault("come 3", 0);
    fault("homf 3", 0);
  }

  private static void endsTooEarly() {
    fault("", 0);
    fault(" ", 1);
    fault("    ", 4);
    String[] texts = {"home", "fetch ", "letter  ", "grass", "brook 3 to", "road 3 to ", "thrower", "lad at",
        "lad at ", "lad at 3 near", "lad at 3 far ", "lad at 3 near 3 odds", "home 3;", "home 3; ", "home 3;lad at 3 ;"};
    for (String text : texts) {
      fault(text, text.length());
    }
  }

  private static void tokensThatCannotStand() {
    fault("stone 3", 0);
    fault("3", 0);
    fault(";home 3", 0);
    fault("home 3;;home 4", 7);
    fault("to 3", 0);
    fault("west", 0);
    fault("at 3", 0);
    fault("home at 3", 5);
    fault("home ;", 5);
    fault("home 24", 5);
    fault("grass 24", 6);
    fault("brook 5 to 4", 11);
    fault("hedge 5 to 24", 11);
    fault("road 5 to;", 9);
    fault("road 5 to 6 to 7", 12);
    fault("road 5 6", 7);
    fault("road 5 west", 7);
    fault("fetch 10", 6);
    fault("letter 24", 7);
    fault("letter at 3", 7);
    fault("home 3 home 4", 7);
    fault("lad 3", 4);
    fault("lad at 24", 7);
    fault("lad at at", 7);
    fault("lad at 3 near 0", 14);
    fault("lad at 3 near 10", 14);
    fault("lad at 3 far 0", 13);
    fault("lad at 3 far 13", 13);
    fault("lad at 3 odds 13", 14);
    fault("lad at 3 near west", 14);
    fault("lad at 3 far 3 near 3", 15);
    fault("lad at 3 odds 3 far 3", 16);
    fault("lad at 3 odds 3 near 3", 16);
    fault("lad at 3 west near 3", 14);
    fault("lad at 3 near 3 near 3", 16);
    fault("lad at 3 west west", 14);
    fault("lad at 3 3", 9);
    fault("lad at 3 to 4", 9);
    fault("home 3;fetch 3;lads at 3;home 77", 15);
  }

  private static void bytesThatBeginNoToken() {
    fault("Home 3", 0);
    fault("home 3,fetch 3", 6);
    fault("home\t3", 4);
    fault("home 3\n", 6);
    fault("home " + (char) 0xe9, 5);
    fault((char) 0xff + "", 0);
    fault((char) 0 + "", 0);
    fault("home 3 " + (char) 0x80, 7);
    fault("hoMe 3", 0);
    fault("home 3`", 6);
    fault("home 3{", 6);
    fault("home /", 5);
    fault("home :", 5);
    fault("home 30 ?", 5);
  }

  private static void cellsThatAreTaken() {
    fault("lad at 3;old at 3", 16);
    StonePost x = new StonePost();
    x.thrower(0, 5);
    x.change(0, 7, 1);
    Due.is("one is there, ill", Due.text(x, "home 5;lad at 5"), -15);
    Due.is("beside him", Due.text(x, "home 5;lad at 6"), 2);
    Due.is("the number", x.of(1, 1), 6);
  }

  private static void theEleventhThrower() {
    StonePost x = new StonePost();
    for (int t = 0; t < 8; t++) {
      x.thrower(0, t);
    }
    Due.is("the WORD of the 11th", Due.text(x, "lad at 9;lad at 10; strong at 77"), -21);
    Due.is("none came", x.count(1), 8);
    Due.is("two more", Due.text(x, "lad at 9;lad at 10;home 3"), 3);
    Due.is("ten", x.count(1), 10);
    Due.is("the WORD of the 11th", Due.text(x, "giant"), -1);
    Due.is("no word of a thrower", Due.text(x, "home 4;lads"), -8);
  }

  private static void theThirteenthLetter() {
    StonePost x = new StonePost();
    for (int i = 0; i < 11; i++) {
      x.letter(i);
    }
    Due.is("the WORD of the 13th", Due.text(x, "letter 3; letter 77"), -11);
    Due.is("none came", x.count(2), 11);
    Due.is("the 12th", Due.text(x, "letter 3"), 1);
    Due.is("the WORD of the 13th", Due.text(x, "letter"), -1);
    x.take(0);
    Due.is("room again", Due.text(x, "letter 4"), 1);
    Due.is("where(11)", x.where(11), 4);
  }

  private static void nothingChangesByAFault() {
    StonePost x = new StonePost();
    Due.is("a fault", Due.text(x, "brook 0 to 23;home 4;fetch 6;lad at 3;letter 3;road 24"), -53);
    Due.is("STUFF", x.stuff(8, 0), 0);
    Due.is("HOME", x.rule(0, 23), 23);
    Due.is("FETCH", x.rule(1, 2), 2);
    Due.is("THROWERS", x.count(1), 0);
    Due.is("LETTERS", x.count(2), 0);
    Due.is("THE TAPE", x.count(5), 0);
    Due.is("no finding", x.status(-1), 0);
  }
}
