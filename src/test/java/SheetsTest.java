/** Promises 38 to 44: spots, sheets. */
public final class SheetsTest {
  private static final int[] WRONG = {-1, Integer.MIN_VALUE, Integer.MAX_VALUE};

  public static void main(String[] args) {
    hold();
    as();
    asWrong();
    sheet();
    write();
    writeWrong();
    copy();
    copyOverItself();
    copyWrong();
    load();
    judge();
    judgeWrong();
    Due.end();
  }

  private static void hold() {
    StonePost x = Due.land("thrower at 3;lad at 4");
    for (int spot = 0; spot < 10; spot++) {
      Due.is("hold", x.hold(spot, spot % 2), 1);
      Due.is("count(7)", x.count(7), spot + 1);
      Due.is("as", x.as(spot, 0), spot % 2);
    }
    Due.is("another one", x.hold(3, 0), 1);
    Due.is("as", x.as(3, 0), 0);
    Due.is("nothing", x.hold(3, -1), 1);
    Due.is("nothing", x.as(3, 0), Due.MISSING);
    Due.is("count(7)", x.count(7), 9);
    Due.is("hold(10, 0)", x.hold(10, 0), Due.BEYOND);
    Due.is("hold(10, -1)", x.hold(10, -1), Due.BEYOND);
    Due.is("hold(0, 2)", x.hold(0, 2), Due.BEYOND);
    Due.is("hold(0, -2)", x.hold(0, -2), Due.BEYOND);
    for (int w : WRONG) {
      Due.is("hold(w, 0)", x.hold(w, 0), Due.BEYOND);
    }
    Due.is("hold(0, least)", x.hold(0, Integer.MIN_VALUE), Due.BEYOND);
    Due.is("hold(0, most)", x.hold(0, Integer.MAX_VALUE), Due.BEYOND);
    Due.is("unchanged", x.as(0, 0), 0);
  }

  private static void as() {
    boolean[][] under = new boolean[7][7];
    int[] above = {-1, 0, 0, 1, 2, 0, 0};
    for (int kind = 0; kind <= 6; kind++) {
      for (int up = kind; up >= 0; up = above[up]) {
        under[kind][up] = true;
      }
    }
    StonePost x = new StonePost();
    for (int kind = 0; kind <= 6; kind++) {
      x.thrower(kind, kind);
      x.hold(9 - kind, kind);
    }
    for (int kind = 0; kind <= 6; kind++) {
      for (int asked = 0; asked <= 6; asked++) {
        Due.is(kind + " as " + asked, x.as(9 - kind, asked), under[kind][asked] ? kind : Due.KIND);
      }
    }
    x.change(0, 0, 3);
    Due.is("a thrower who became a giant", x.as(9, 1), 0);
    Due.is("a thrower who became a giant", x.as(9, 2), Due.KIND);
  }

  private static void asWrong() {
    StonePost x = Due.land("thrower at 3");
    Due.is("holds nothing", x.as(0, 1), Due.MISSING);
    x.hold(0, 0);
    Due.is("as(0, 7)", x.as(0, 7), Due.BEYOND);
    Due.is("as(10, 0)", x.as(10, 0), Due.BEYOND);
    Due.is("beyond ahead of missing", x.as(1, 7), Due.BEYOND);
    for (int w : WRONG) {
      Due.is("as(w, 0)", x.as(w, 0), Due.BEYOND);
      Due.is("as(0, w)", x.as(0, w), Due.BEYOND);
    }
    Due.is("status(2)", x.status(2), 0);
    x.as(0, 6);
    Due.is("status(2)", x.status(2), 1);
    Due.is("status(5)", x.status(5), 1);
  }

  private static void sheet() {
    StonePost x = new StonePost();
    int[] bits = {8, 16, 32};
    for (int s = 0; s < 4; s++) {
      for (int b : bits) {
        Due.is("sheet", x.sheet(s, b, 40), 40);
        Due.is("the last", x.write(s, 39, 1), 1);
        Due.is("behind it", x.write(s, 40, 1), Due.BEYOND);
        Due.is("sheet of none", x.sheet(s, b, 0), 0);
        Due.is("none", x.write(s, 0, 1), Due.BEYOND);
        Due.is("none is there", x.load(s), 0);
      }
      Due.is("missing", x.sheet(s, 0, 7), 0);
      Due.is("missing", x.load(s), Due.MISSING);
    }
    Due.is("all 0 anew", x.sheet(0, 8, 3) + x.write(0, 1, 9) + x.sheet(0, 8, 4), 3 + 1 + 4);
    x.stuff(1, 3);
    x.stuff(3, 3);
    Due.is("all 0 anew", x.load(0), 4);
    Due.is("all 0 anew", x.stuff(1, 0) + x.stuff(3, 0), 0);
    for (int w : new int[] {4, -1, Integer.MIN_VALUE, Integer.MAX_VALUE}) {
      Due.is("sheet(w, 8, 1)", x.sheet(w, 8, 1), Due.BEYOND);
      Due.is("beyond ahead of size", x.sheet(w, 8, -1), Due.BEYOND);
      Due.is("other bits", x.sheet(0, w, 1), Due.BEYOND);
      Due.is("other bits ahead of size", x.sheet(0, w, -1), Due.BEYOND);
    }
    for (int b : new int[] {1, 7, 9, 24, 31, 33, 64}) {
      Due.is("other bits", x.sheet(0, b, 1), Due.BEYOND);
    }
    for (int b : new int[] {0, 8, 16, 32}) {
      Due.is("below 0", x.sheet(0, b, -1), Due.SIZE);
      Due.is("below 0", x.sheet(0, b, Integer.MIN_VALUE), Due.SIZE);
      Due.is("above 40", x.sheet(0, b, 41), Due.BEYOND);
      Due.is("above 40", x.sheet(0, b, Integer.MAX_VALUE), Due.BEYOND);
    }
    Due.is("unchanged", x.load(0), 4);
    Due.is("status(6)", x.status(6), 8);
  }

  /** No call tells a sheet's number: load and judge show what it is. */
  private static void write() {
    StonePost x = Due.land("road 0 to 23;home 12;letter 0;letter 12");
    x.sheet(0, 8, 2);
    Due.is("256 of 8 bits", x.write(0, 0, 256), 1);
    x.write(0, 1, 257);
    Due.is("are 0, 1", x.judge(0, 0), 0);
    x.write(0, 1, 0x7fffff01);
    Due.is("are 0, 1", x.judge(0, 0), 0);
    x.write(0, 1, 255);
    Due.is("-1", x.load(0), 1);
    x.stuff(0, 3);
    x.sheet(1, 16, 2);
    x.write(1, 0, 65536);
    x.write(1, 1, 65537);
    Due.is("are 0, 1", x.judge(1, 0), 0);
    x.write(1, 1, 257);
    Due.is("257 of 16 bits", x.judge(1, 0), 2);
    x.write(1, 1, 65535);
    Due.is("-1", x.load(1), 1);
    x.sheet(2, 32, 2);
    x.write(2, 1, 65536);
    Due.is("65536 of 32 bits", x.load(2), 1);
    x.write(2, 1, -1);
    Due.is("-1", x.load(2), 1);
    x.write(2, 1, 1);
    Due.is("1", x.load(2), 2);
    x.write(2, 0, Integer.MIN_VALUE);
    Due.is("the sign of 32 bits", x.load(2), 0);
    x.write(1, 0, 32768);
    Due.is("the sign of 16 bits", x.load(1), 0);
    x.write(0, 0, 128);
    Due.is("the sign of 8 bits", x.load(0), 0);
    x.sheet(3, 8, 1);
    x.write(3, 0, 12 - 256);
    Due.is("12 by its lowest bits", x.judge(3, 1), 0);
  }

  private static void writeWrong() {
    StonePost x = new StonePost();
    Due.is("missing", x.write(0, -1, 0), Due.MISSING);
    Due.is("missing", x.write(3, 99, 0), Due.MISSING);
    x.sheet(0, 8, 5);
    for (int w : new int[] {5, -1, Integer.MIN_VALUE, Integer.MAX_VALUE}) {
      Due.is("write(w, 0, 0)", x.write(w, 0, 0), Due.BEYOND);
      Due.is("write(0, w, 0)", x.write(0, w, 0), Due.BEYOND);
    }
    Due.is("write(4, 0, 0)", x.write(4, 0, 0), Due.BEYOND);
    Due.is("write(0, 4, 0)", x.write(0, 4, 3), 1);
  }

  private static void fill(StonePost x, int s, int bits, int... numbers) {
    Due.is("sheet", x.sheet(s, bits, numbers.length), numbers.length);
    for (int i = 0; i < numbers.length; i++) {
      x.write(s, i, numbers[i]);
    }
  }

  private static void checkStuffs(StonePost x, int s, int... stuffs) {
    Due.is("load", x.load(s), stuffs.length);
    for (int cell = 0; cell < stuffs.length; cell++) {
      Due.is("stuff(" + cell + ")", x.stuff(cell, 0), stuffs[cell]);
    }
  }

  private static void copy() {
    StonePost x = new StonePost();
    fill(x, 0, 16, 3, 2, 1, 0);
    fill(x, 1, 16, 0, 0, 0, 0, 0, 0);
    Due.is("copy", x.copy(0, 1, 1, 3, 3), 3);
    checkStuffs(x, 1, 0, 0, 0, 2, 1, 0);
    Due.is("all", x.copy(0, 0, 1, 0, 4), 4);
    checkStuffs(x, 1, 3, 2, 1, 0, 1, 0);
    checkStuffs(x, 0, 3, 2, 1, 0);
    Due.is("none", x.copy(0, 0, 1, 0, 0), 0);
    Due.is("none at the end", x.copy(0, 4, 1, 6, 0), 0);
    Due.is("none behind the end", x.copy(0, 5, 1, 0, 0), Due.BEYOND);
    Due.is("none behind the other's end", x.copy(0, 0, 1, 7, 0), Due.BEYOND);
    fill(x, 2, 16);
    Due.is("none of none", x.copy(2, 0, 2, 0, 0), 0);
  }

  private static void copyOverItself() {
    StonePost x = new StonePost();
    fill(x, 0, 8, 1, 2, 3, 0, 1);
    Due.is("on", x.copy(0, 0, 0, 1, 4), 4);
    checkStuffs(x, 0, 1, 1, 2, 3, 0);
    fill(x, 0, 8, 1, 2, 3, 0, 1);
    Due.is("back", x.copy(0, 1, 0, 0, 4), 4);
    checkStuffs(x, 0, 2, 3, 0, 1, 1);
  }

  private static void copyWrong() {
    StonePost x = new StonePost();
    fill(x, 0, 8, 1, 2, 3);
    fill(x, 1, 16, 1, 2, 3);
    fill(x, 2, 8, 0, 0, 0, 0);
    for (int w : new int[] {4, -1, Integer.MIN_VALUE, Integer.MAX_VALUE}) {
      Due.is("copy(w, 0, 3, 0, 1)", x.copy(w, 0, 3, 0, 1), Due.BEYOND);
      Due.is("copy(3, 0, w, 0, 1)", x.copy(3, 0, w, 0, 1), Due.BEYOND);
    }
    Due.is("missing", x.copy(0, -1, 3, 0, 1), Due.MISSING);
    Due.is("missing", x.copy(3, 0, 1, 0, 1), Due.MISSING);
    Due.is("missing", x.copy(3, 0, 3, 0, 1), Due.MISSING);
    Due.is("kind, and beyond", x.copy(0, -1, 1, 0, 1), Due.KIND);
    Due.is("kind", x.copy(1, 0, 2, 0, 0), Due.KIND);
    for (int w : new int[] {5, -1, Integer.MIN_VALUE, Integer.MAX_VALUE}) {
      Due.is("from", x.copy(0, w, 2, 0, 1), Due.BEYOND);
      Due.is("to", x.copy(0, 0, 2, w, 1), Due.BEYOND);
      Due.is("n", x.copy(0, 0, 2, 0, w), Due.BEYOND);
      Due.is("from, n", x.copy(0, w, 2, 0, w), Due.BEYOND);
    }
    Due.is("one has four, the other three", x.copy(2, 0, 0, 0, 4), Due.BEYOND);
    Due.is("one has three, the other four", x.copy(0, 0, 2, 0, 4), Due.BEYOND);
    Due.is("two from the last", x.copy(0, 2, 2, 0, 2), Due.BEYOND);
    Due.is("two to the last", x.copy(0, 0, 2, 3, 2), Due.BEYOND);
    checkStuffs(x, 2, 0, 0, 0, 0);
  }

  private static void load() {
    StonePost x = Due.land("brook 0 to 23");
    fill(x, 0, 32, 3, 2, 0, 4, 1);
    Due.is("to the first that isn't", x.load(0), 3);
    int[] due = {3, 2, 0, 1, 1};
    for (int cell = 0; cell < due.length; cell++) {
      Due.is("stuff(" + cell + ")", x.stuff(cell, 1), due[cell]);
    }
    fill(x, 0, 32, -1, 2);
    Due.is("the first isn't", x.load(0), 0);
    x.sheet(1, 8, 40);
    for (int i = 0; i < 40; i++) {
      x.write(1, i, 3);
    }
    Due.is("no more cells", x.load(1), 24);
    Due.is("the last cell", x.stuff(23, 0), 3);
    x.sheet(1, 8, 24);
    Due.is("as many as cells", x.load(1), 24);
    Due.is("missing", x.load(2), Due.MISSING);
    Due.is("load(4)", x.load(4), Due.BEYOND);
    for (int w : WRONG) {
      Due.is("load(w)", x.load(w), Due.BEYOND);
    }
  }

  private static void judge() {
    StonePost x = Due.land("thrower at 4 near 3;letter 4;brook 6;letter 6;letter 23;hedge 20;thrower at 21;letter 20");
    fill(x, 0, 8, 4, 7, 7, 7);
    Due.is("told", x.judge(0, 0), 0);
    fill(x, 0, 8, 4, 6, 6, 6);
    Due.is("short", x.judge(0, 0), 0);
    fill(x, 0, 8, 4, 7, 6);
    Due.is("can't go on so", x.judge(0, 0), 3);
    fill(x, 0, 8, 4, 5);
    Due.is("can't go on so", x.judge(0, 0), 2);
    fill(x, 0, 8, 5, 7);
    Due.is("doesn't begin so", x.judge(0, 0), 1);
    fill(x, 0, 8, 4, 7, 7, 24, 7);
    Due.is("no cell", x.judge(0, 0), 4);
    fill(x, 0, 8, 4, -28);
    Due.is("no cell", x.judge(0, 0), 2);
    fill(x, 0, 32, 4, 39);
    Due.is("no cell", x.judge(0, 0), 2);
    fill(x, 0, 8);
    Due.is("none", x.judge(0, 0), 0);
    fill(x, 0, 8, 6, 6);
    Due.is("a brook", x.judge(0, 1), 0);
    fill(x, 0, 8, 23, 23, 22);
    Due.is("HOME", x.judge(0, 2), 3);
    int[] forty = new int[40];
    java.util.Arrays.fill(forty, 23);
    fill(x, 0, 8, forty);
    Due.is("as many as a sheet has", x.judge(0, 2), 0);
    x.write(0, 39, 22);
    Due.is("all but the last", x.judge(0, 2), 40);
    fill(x, 0, 8, 20, 20, 20, 21, 22, 21, 23);
    Due.is("a hedge", x.judge(0, 3), 0);
    x.change(1, 6, 1);
    Due.is("by CHOICE", x.judge(0, 3), 5);
    x = Due.land("old at 4 near 3;letter 4");
    fill(x, 0, 8, 4, 6, 4, 6, 4, 6, 4, 7);
    Due.is("the day comes", x.judge(0, 0), 0);
    fill(x, 0, 8, 4, 6, 4, 6, 4, 7);
    Due.is("it is still night", x.judge(0, 0), 6);
    x.hours(2);
    x.take(0);
    x.letter(4);
    Due.is("the day comes", x.judge(0, 0), 0);
    x.change(0, 5, 0);
    Due.is("SURE 0", x.judge(0, 0), 2);
  }

  private static void judgeWrong() {
    StonePost x = new StonePost();
    Due.is("missing ahead of no letter", x.judge(0, 0), Due.MISSING);
    fill(x, 0, 8);
    Due.is("no letter", x.judge(0, 0), Due.BEYOND);
    x.letter(3);
    for (int w : new int[] {4, -1, Integer.MIN_VALUE, Integer.MAX_VALUE}) {
      Due.is("judge(w, 0)", x.judge(w, 0), Due.BEYOND);
      Due.is("judge(0, w)", x.judge(0, w), Due.BEYOND);
    }
    Due.is("judge(0, 1)", x.judge(0, 1), Due.BEYOND);
    Due.is("judge(0, 0)", x.judge(0, 0), 0);
  }
}
