/** Promises 16 to 21: odds, from now on. */
public final class OddsTest {
  private static final long ALL = 15407021574586368L;

  public static void main(String[] args) {
    odds();
    oddsWithEachRule();
    oddsByClock();
    lost();
    likeliest();
    fewest();
    fewestByGates();
    free();
    may();
    nothingChanges();
    Due.end();
  }

  private static void odds() {
    StonePost x = Due.land("thrower at 0 near 3");
    Due.is("none", x.odds(0, 0, 0), 1);
    Due.is("none", x.odds(0, 0, 1), 0);
    Due.is("told", x.odds(0, 1, 3), 8);
    Due.is("short", x.odds(0, 1, 2), 4);
    Due.is("stays", x.odds(0, 2, 3), 96);
    Due.is("fetched back", x.odds(0, 2, 0), 48);
    Due.is("two", x.odds(0, 2, 2), 0);
    Due.is("three", x.odds(0, 3, 3), 96 * 12 + 48 * 8);
    x.change(0, 6, 1);
    Due.is("by CHOICE", x.odds(0, 1, 5), 6);
    Due.is("by CHOICE", x.odds(0, 1, 4), 6);
    Due.is("all", x.odds(23, 15, 23), ALL);
    long sum = 0;
    for (int then = 0; then < 24; then++) {
      sum += x.odds(0, 15, then);
    }
    Due.is("all in all", sum, ALL);
    for (int w : new int[] {-1, 24, Integer.MIN_VALUE, Integer.MAX_VALUE}) {
      Due.is("odds(w, 0, 0)", x.odds(w, 0, 0), Due.BEYOND);
      Due.is("odds(0, w, 0)", x.odds(0, w, 0), Due.BEYOND);
      Due.is("odds(0, 0, w)", x.odds(0, 0, w), Due.BEYOND);
    }
    Due.is("odds(0, 16, 0)", x.odds(0, 16, 0), Due.BEYOND);
  }

  private static void oddsWithEachRule() {
    StonePost x = Due.land("thrower at 4;thrower at 12 near 1;brook 4;hedge 10;hedge 16;road 17 to 18;road 13");
    Due.is("in a BROOK", x.odds(4, 3, 4), 1728);
    Due.is("fetched to a BROOK", x.odds(3, 1, 4), 12);
    Due.is("from a HEDGE", x.odds(10, 1, 12), 6);
    Due.is("stays in a HEDGE", x.odds(10, 1, 10), 6);
    Due.is("a HEDGE, nobody near", x.odds(16, 1, 16), 12);
    Due.is("a ROAD", x.odds(17, 2, 19), 144);
    Due.is("fetched from a ROAD", x.odds(13, 1, 12), 12);
    Due.is("REACH 1, short", x.odds(12, 1, 12), 4);
    Due.is("REACH 1", x.odds(12, 1, 13), 8);
    x.rule(0, 0);
    Due.is("a ROAD the other way", x.odds(18, 2, 16), 144);
    x.change(1, 5, 12);
    Due.is("sure", x.odds(12, 1, 13), 12);
    x.change(1, 5, 0);
    Due.is("never", x.odds(12, 1, 12), 12);
    x.change(1, 7, 1);
    Due.is("ill", x.odds(10, 1, 10), 12);
    x.walk(0, 0);
    Due.is("HOME stays", x.odds(0, 2, 0), 144);
    Due.is("fetched HOME", x.odds(2, 1, 0), 12);
  }

  private static void oddsByClock() {
    StonePost x = Due.land("old at 0 near 3");
    Due.is("by night", x.odds(0, 1, 2), 8);
    Due.is("by night", x.odds(0, 5, 3), 0);
    Due.is("by day", x.odds(0, 7, 3), 2985984L * 8);
    x.hours(5);
    Due.is("still night", x.odds(0, 1, 3), 0);
    x.hours(1);
    Due.is("day", x.odds(0, 1, 3), 8);
    x.hours(11);
    Due.is("still day", x.odds(0, 1, 3), 8);
    x.hours(1);
    Due.is("night again", x.odds(0, 1, 3), 0);
    Due.is("the day behind it", x.odds(0, 13, 3), 12L * 743008370688L * 8);
    x = Due.land("old at 3 near 2 far 9;blind at 20 near 2 far 5 odds 12 west");
    x.set(3);
    Due.is("FAR by night", x.odds(3, 1, 11), 6);
    Due.is("FAR by night, blind", x.odds(20, 1, 16), 12);
    x.hours(12);
    Due.is("FAR by day", x.odds(3, 1, 12), 6);
    Due.is("FAR by day, blind", x.odds(20, 1, 15), 7);
  }

  private static void lost() {
    StonePost x = Due.land("thrower at 0 near 3;brook 2 to 3");
    Due.is("lost(0, 0)", x.lost(0, 0), 0);
    Due.is("lost(0, 1)", x.lost(0, 1), 12);
    x.stuff(2, 0);
    Due.is("lost(0, 1)", x.lost(0, 1), 8);
    Due.is("lost(0, 2)", x.lost(0, 2), 96);
    Due.is("lost(0, 3)", x.lost(0, 3), 96 * 12 + 48 * 8);
    Due.is("lost(3, 15)", x.lost(3, 15), ALL);
    x.stuff(0, 1);
    Due.is("on the first cell", x.lost(1, 1), 12);
    x.stuff(0, 0);
    x.stuff(22, 1);
    x.stuff(23, 1);
    x.rule(0, 3);
    Due.is("on the last cells", x.lost(22, 2) + x.lost(23, 2), 288);
    Due.is("HOME in a BROOK", x.lost(0, 3), 0);
    Due.is("HOME in a BROOK", x.lost(3, 3), 0);
    for (int w : new int[] {-1, 24, Integer.MIN_VALUE, Integer.MAX_VALUE}) {
      Due.is("lost(w, 0)", x.lost(w, 0), Due.BEYOND);
      Due.is("lost(0, w)", x.lost(0, w), Due.BEYOND);
    }
    Due.is("lost(0, 16)", x.lost(0, 16), Due.BEYOND);
  }

  private static void likeliest() {
    StonePost x = Due.land("thrower at 0 near 3;hedge 10;thrower at 9 near 5;hedge 20;thrower at 21");
    Due.is("likeliest(0, 0)", x.likeliest(0, 0), 0);
    Due.is("likeliest(0, 1)", x.likeliest(0, 1), 3);
    x.change(0, 5, 5);
    Due.is("the short way", x.likeliest(0, 1), 2);
    x.change(0, 5, 6);
    Due.is("of two the least", x.likeliest(0, 1), 2);
    Due.is("of two the least", x.likeliest(10, 1), 9);
    Due.is("of two the least", x.likeliest(20, 1), 20);
    Due.is("likeliest(23, 15)", x.likeliest(23, 15), 23);
    Due.is("each cell", new StonePost().likeliest(1, 3), 1);
    for (int w : new int[] {-1, 24, Integer.MIN_VALUE, Integer.MAX_VALUE}) {
      Due.is("likeliest(w, 0)", x.likeliest(w, 0), Due.BEYOND);
      Due.is("likeliest(0, w)", x.likeliest(0, w), Due.BEYOND);
    }
    Due.is("likeliest(0, 16)", x.likeliest(0, 16), Due.BEYOND);
  }

  private static void fewest() {
    StonePost x = Due.land("road 0 to 22");
    for (int cell = 0; cell < 24; cell++) {
      Due.is("fewest(" + cell + ")", x.fewest(cell), 23 - cell);
    }
    x = Due.land("thrower at 17 near 5 far 6 odds 1;fetch 3");
    Due.is("NEAR ends on 22, or 21", x.fewest(17), Due.NONE);
    x.change(0, 6, 1);
    Due.is("FAR with SURE 0", x.fewest(17), Due.NONE);
    x.change(0, 5, 3);
    Due.is("FAR with SURE 1", x.fewest(17), 1);
    Due.is("fetched first", x.fewest(14), 2);
    Due.is("nobody near", x.fewest(13), Due.NONE);
    x.change(0, 3, 7);
    Due.is("short, or beyond", x.fewest(17), 1);
    x.rule(0, 23);
    x.change(0, 7, 1);
    Due.is("ill", x.fewest(17), Due.NONE);
    for (int w : new int[] {-1, 24, Integer.MIN_VALUE, Integer.MAX_VALUE}) {
      Due.is("fewest(w)", x.fewest(w), Due.BEYOND);
    }
    x = Due.land("thrower at 17 near 7 odds 12;home 23");
    x.change(0, 4, 1);
    x.rule(0, 22);
    Due.is("the short way with SURE 12", x.fewest(17), Due.NONE);
    x.change(0, 5, 11);
    x.change(0, 2, 6);
    Due.is("the short way with SURE 11", x.fewest(17), 1);
  }

  /** Gates of old ones, open by night or by day in turn: more than sixty hours, and fewer as the clock goes. */
  private static StonePost gates() {
    StonePost x = Due.land("old at 0 near 3 odds 12;thrower at 3 near 3 odds 12 west;home 12");
    Due.text(x, "old at 2 near 3 odds 12;thrower at 4 near 2 odds 12 west");
    Due.text(x, "old at 5 near 3 odds 12;thrower at 8 near 3 odds 12 west");
    Due.text(x, "old at 7 near 3 odds 12;thrower at 9 near 2 odds 12 west");
    Due.text(x, "old at 10 near 3 odds 12;thrower at 13 near 3 odds 12 west");
    return x;
  }

  private static void fewestByGates() {
    StonePost x = gates();
    x.hours(7);
    Due.is("61 HOURS from 7 o'clock", x.fewest(0), Due.NONE);
    Due.is("60 HOURS from 7 o'clock", x.fewest(3), 60);
    Due.is("in 60 HOURS", x.may(3, 60), 1 << 12);
    Due.is("in 59 HOURS", x.may(3, 59), 1 << 10);
    x.hours(1);
    Due.is("from 8 o'clock", x.fewest(0), 59);
    x.letter(0);
    x.hours(48);
    Due.is("one goes", x.hours(10), 0);
    Due.is("and comes", x.hours(1), 1);
  }

  private static void free() {
    StonePost x = Due.land("thrower at 0 near 4 far 5;thrower at 9 near 2 far 7;thrower at 5 near 4;thrower at 16 near 7;fetch 0");
    Due.is("by CHOICES", x.fewest(0), Due.NONE);
    Due.is("free", x.free(0), 4);
    Due.is("free(16)", x.free(16), 1);
    Due.is("free(23)", x.free(23), 0);
    Due.is("free(4)", x.free(4), Due.NONE);
    x.change(1, 5, 2);
    Due.is("FAR with SURE 0", x.free(0), Due.NONE);
    x.change(1, 5, 3);
    x.change(2, 7, 1);
    Due.is("ill", x.free(0), Due.NONE);
    for (int w : new int[] {-1, 24, Integer.MIN_VALUE, Integer.MAX_VALUE}) {
      Due.is("free(w)", x.free(w), Due.BEYOND);
    }
  }

  private static void may() {
    StonePost x = Due.land("thrower at 0 near 3;hedge 10;thrower at 11");
    Due.is("may(0, 0)", x.may(0, 0), 1);
    Due.is("may(0, 1)", x.may(0, 1), Due.set(3, 2));
    Due.is("may(0, 2)", x.may(0, 2), Due.set(3, 0));
    Due.is("may(0, 3)", x.may(0, 3), Due.set(3, 2));
    Due.is("may(10, 1)", x.may(10, 1), Due.set(10, 11));
    Due.is("may(10, 2)", x.may(10, 2), Due.set(10, 11, 12, 13));
    Due.is("may(23, 60)", x.may(23, 60), 1 << 23);
    x.change(0, 5, 12);
    Due.is("sure", x.may(0, 1), Due.set(3));
    x.change(0, 5, 0);
    Due.is("never", x.may(0, 1), Due.set(2));
    for (int w : new int[] {-1, 61, Integer.MIN_VALUE, Integer.MAX_VALUE}) {
      Due.is("may(w, 0)", x.may(w, 0), Due.BEYOND);
      Due.is("may(0, w)", x.may(0, w), Due.BEYOND);
    }
    Due.is("may(24, 0)", x.may(24, 0), Due.BEYOND);
  }

  private static void nothingChanges() {
    StonePost x = Due.land("thrower at 0 near 3;letter 0");
    x.odds(0, 15, 3);
    x.lost(0, 15);
    x.likeliest(0, 15);
    x.fewest(0);
    x.free(0);
    x.may(0, 60);
    Due.is("HOUR", x.count(0), 0);
    Due.is("z", x.count(6), 1);
    Due.is("the letter", x.where(0), 0);
    Due.is("THANKS", x.count(3), 0);
  }
}
