/** Promises 11 to 15: letters, hours by draws. */
public final class LettersTest {
  public static void main(String[] args) {
    letter();
    where();
    take();
    hoursWrong();
    hoursToTheEnd();
    toldOrShort();
    noDraw();
    drawThoughBothAreOne();
    hedge();
    road();
    stays();
    thanks();
    byNumbers();
    clockGoesOn();
    cameHome();
    letters();
    Due.end();
  }

  private static int after(int z) {
    return z * 1103515245 + 12345;
  }

  /** The least z of 0 or more whose next draw has a rest by 12. */
  private static int zFor(int rest) {
    int z = 0;
    while ((after(z) >>> 8) % 12 != rest) {
      z++;
    }
    return z;
  }

  private static void letter() {
    StonePost x = new StonePost();
    for (int i = 0; i < 12; i++) {
      Due.is("letter", x.letter(i % 3 == 0 ? 23 : i), i);
    }
    Due.is("beyond, though full", x.letter(24), Due.BEYOND);
    Due.is("beyond, though full", x.letter(-1), Due.BEYOND);
    Due.is("full", x.letter(0), Due.FULL);
    Due.is("count(2)", x.count(2), 12);
    x.take(5);
    Due.is("room again", x.letter(0), 11);
  }

  private static void where() {
    StonePost x = Due.land("letter 7;letter 0;letter 23");
    Due.is("where(0)", x.where(0), 7);
    Due.is("where(1)", x.where(1), 0);
    Due.is("where(2)", x.where(2), 23);
    for (int w : new int[] {-1, 3, 11, 12, Integer.MIN_VALUE, Integer.MAX_VALUE}) {
      Due.is("where(" + w + ")", x.where(w), Due.BEYOND);
    }
  }

  private static void take() {
    StonePost x = Due.land("letter 7;letter 0;letter 22;letter 5");
    Due.is("take(4)", x.take(4), Due.BEYOND);
    Due.is("take(-1)", x.take(-1), Due.BEYOND);
    Due.is("take(1)", x.take(1), 0);
    Due.is("ahead of it", x.where(0), 7);
    Due.is("behind it", x.where(1), 22);
    Due.is("behind it", x.where(2), 5);
    Due.is("no such one now", x.where(3), Due.BEYOND);
    Due.is("the last", x.take(2), 5);
    Due.is("the first", x.take(0), 7);
    Due.is("the only one", x.take(0), 22);
    Due.is("none", x.take(0), Due.BEYOND);
    Due.is("count(2)", x.count(2), 0);
    for (int i = 0; i < 12; i++) {
      x.letter(i);
    }
    Due.is("of twelve", x.take(0), 0);
    Due.is("of twelve", x.where(10), 11);
  }

  private static void hoursWrong() {
    StonePost x = new StonePost();
    for (int w : new int[] {0, 49, -1, Integer.MIN_VALUE, Integer.MAX_VALUE}) {
      Due.is("hours(" + w + ")", x.hours(w), Due.BEYOND);
    }
    Due.is("no hour went", x.count(0), 0);
    x.hours(1);
    Due.is("one went", x.count(0), 1);
    x.hours(48);
    Due.is("48 more", x.count(0), 49);
  }

  private static void hoursToTheEnd() {
    StonePost x = new StonePost();
    for (int i = 0; i < 208; i++) {
      x.hours(48);
    }
    Due.is("HOUR", x.count(0), 9984);
    Due.is("too many, and above the end", x.hours(49), Due.BEYOND);
    Due.is("one too many", x.hours(16), Due.STATE);
    Due.is("HOUR", x.count(0), 9984);
    Due.is("to the end", x.hours(15), 0);
    Due.is("HOUR", x.count(0), 9999);
    Due.is("above the end", x.hours(1), Due.STATE);
    Due.is("odds at the end", x.odds(0, 15, 0), 15407021574586368L);
    Due.is("may at the end", x.may(4, 60), 1 << 4);
  }

  private static void toldOrShort() {
    for (int rest = 0; rest < 12; rest++) {
      StonePost x = Due.land("thrower at 3 near 4 far 9;letter 3");
      int z = zFor(rest);
      x.seed(z);
      x.hours(1);
      Due.is("near with rest " + rest, x.where(0), rest < 8 ? 7 : 6);
      Due.is("one draw", x.count(6), after(z));
      x.take(0);
      x.letter(3);
      x.change(0, 6, 1);
      x.seed(z);
      x.hours(1);
      Due.is("far with rest " + rest, x.where(0), rest < 6 ? 12 : 11);
      Due.is("one draw", x.count(6), after(z));
    }
    StonePost x = Due.land("thrower at 3 near 4;letter 3");
    x.seed(Integer.MIN_VALUE);
    x.hours(1);
    Due.is("draws are ints", x.count(6), after(Integer.MIN_VALUE));
    Due.is("and z >>> 8", x.where(0), (after(Integer.MIN_VALUE) >>> 8) % 12 < 8 ? 7 : 6);
  }

  private static void noDraw() {
    StonePost x = Due.land("thrower at 3 near 4 odds 12;letter 3;thrower at 13 near 4 odds 0;letter 13");
    Due.text(x, "letter 15;letter 0;lad at 9 near 4;letter 9");
    x.seed(77);
    x.hours(1);
    Due.is("sure", x.where(0), 7);
    Due.is("never: short", x.where(1), 16);
    Due.is("fetched", x.where(2), 13);
    Due.is("stays", x.where(3), 0);
    Due.is("a lad", x.where(4), 11);
    Due.is("z", x.count(6), 77);
    x = Due.land("blind at 3 near 4 odds 12;letter 3");
    x.hours(1);
    Due.is("a blind one by night", x.where(0), 6);
    Due.is("z", x.count(6), 1);
  }

  private static void drawThoughBothAreOne() {
    StonePost x = Due.land("thrower at 20 near 9;letter 20;home 0");
    x.hours(1);
    Due.is("to the edge", x.where(0), 23);
    Due.is("a draw all the same", x.count(6), after(1));
    x = Due.land("thrower at 20 near 1 odds 1;letter 20");
    x.change(0, 0, 5);
    x.hours(1);
    Due.is("of REACH 0", x.where(0), 20);
    Due.is("a draw all the same", x.count(6), after(1));
    x = Due.land("thrower at 20 near 3 odds 11;letter 20");
    x.hours(1);
    Due.is("with SURE 11", x.count(6), after(1));
  }

  private static void hedge() {
    for (int rest = 0; rest < 12; rest++) {
      StonePost x = Due.land("hedge 5;thrower at 7;letter 5");
      int z = zFor(rest);
      x.seed(z);
      x.hours(1);
      Due.is("from a HEDGE with rest " + rest, x.where(0), rest < 6 ? 7 : 5);
      Due.is("one draw", x.count(6), after(z));
      Due.is("fetched is not thrown", x.of(0, 8), 0);
    }
    StonePost x = Due.land("hedge 4 to 9;thrower at 7 odds 12;letter 4;letter 7");
    x.hours(1);
    Due.is("nobody near", x.where(0), 4);
    Due.is("thrown from a HEDGE", x.where(1), 9);
    Due.is("no draw", x.count(6), 1);
  }

  private static void road() {
    StonePost x = Due.land("road 0 to 23;home 10;letter 4;letter 15;letter 10");
    x.hours(1);
    Due.is("nearer from below", x.where(0), 5);
    Due.is("nearer from above", x.where(1), 14);
    Due.is("on HOME", x.where(2), 10);
    x.thrower(0, 3);
    x.hours(1);
    Due.is("fetched from a ROAD", x.where(0), 3);
    x.change(0, 7, 1);
    x.hours(1);
    Due.is("past the ill one", x.where(0), 4);
    Due.is("no draws", x.count(6), 1);
  }

  private static void stays() {
    StonePost x = Due.land("brook 5;thrower at 5;thrower at 23;thrower at 7;letter 5;letter 23");
    Due.is("hours(20)", x.hours(20), 0);
    Due.is("in a BROOK", x.where(0), 5);
    Due.is("on HOME", x.where(1), 23);
    Due.is("no draws", x.count(6), 1);
    Due.is("nobody threw", x.count(3), 0);
    Due.is("HOUR", x.count(0), 20);
    x = Due.land("brook 5;home 5;thrower at 7 near 2 odds 12 west;letter 7");
    Due.is("HOME in a BROOK", x.hours(1), 1);
    Due.is("is HOME", x.letters(0), 1);
    Due.is("not lost", x.letters(1), 0);
  }

  private static void thanks() {
    StonePost x = Due.land("thrower at 5 near 1 odds 0;thrower at 9 near 1 odds 0;letter 5;letter 5;letter 9;letter 7");
    x.hours(1);
    Due.is("two thrown to his own cell", x.of(0, 8), 2);
    Due.is("one", x.of(1, 8), 1);
    x.hours(3);
    Due.is("and the one fetched to him", x.of(0, 8), 2 + 3 * 3);
    Due.is("four", x.of(1, 8), 4);
    Due.is("count(3)", x.count(3), 15);
    x.change(0, 7, 1);
    x.hours(1);
    Due.is("ill", x.of(0, 8), 11);
  }

  private static void byNumbers() {
    StonePost x = Due.land("thrower at 3 near 4;thrower at 12 near 4;letter 12;letter 3;letter 12");
    int z = 5;
    x.seed(z);
    x.hours(1);
    int[] from = {12, 3, 12};
    for (int i = 0; i < 3; i++) {
      z = after(z);
      Due.is("letter " + i, x.where(i), from[i] + ((z >>> 8) % 12 < 8 ? 4 : 3));
    }
    Due.is("three draws", x.count(6), z);
  }

  private static void clockGoesOn() {
    StonePost x = Due.land("old at 3 near 4 odds 12;letter 3");
    x.hours(1);
    Due.is("by night", x.where(0), 6);
    x.take(0);
    x.hours(4);
    x.letter(3);
    x.hours(1);
    Due.is("clock 5", x.where(0), 6);
    x.take(0);
    x.letter(3);
    x.hours(1);
    Due.is("clock 6", x.where(0), 7);
    x.take(0);
    x.hours(10);
    x.letter(3);
    x.hours(1);
    Due.is("clock 17", x.where(0), 7);
    x.take(0);
    x.letter(3);
    x.hours(1);
    Due.is("clock 18", x.where(0), 6);
    x = Due.land("old at 3 near 3 odds 12;letter 3");
    x.hours(7);
    Due.is("to and fro till the day", x.where(0), 6);
  }

  private static void cameHome() {
    StonePost x = Due.land("road 10 to 22;letter 23;letter 22;letter 20;letter 5");
    Due.is("hours(2)", x.hours(2), 1);
    Due.is("hours(1)", x.hours(1), 1);
    Due.is("hours(48)", x.hours(48), 0);
    x.rule(0, 20);
    Due.is("HOME is elsewhere", x.letters(0), 0);
    x.stuff(23, 3);
    Due.is("all of them again", x.hours(5), 3);
  }

  private static void letters() {
    StonePost x = Due.land("brook 3 to 5;home 4;letter 3;letter 4;letter 5;letter 6;letter 4;letter 4;letter 23");
    Due.is("letters(0)", x.letters(0), 3);
    Due.is("letters(1)", x.letters(1), 2);
    Due.is("letters(2)", x.letters(2), 2);
    for (int w : new int[] {-1, 3, Integer.MIN_VALUE, Integer.MAX_VALUE}) {
      Due.is("letters(" + w + ")", x.letters(w), Due.BEYOND);
    }
  }
}
