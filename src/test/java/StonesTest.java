/** Promises 30 to 34: stones found. */
public final class StonesTest {
  private static final int[] WRONG = {-1, 24, Integer.MIN_VALUE, Integer.MAX_VALUE};

  public static void main(String[] args) {
    whose();
    from();
    thief();
    thiefOfMany();
    gifts();
    giftsOfOthers();
    seed();
    Due.end();
  }

  private static void whose() {
    StonePost x = Due.land("thrower at 4 near 2 far 5;thrower at 12 near 3 far 6 odds 12 west;brook 4;thrower at 20 near 5 far 9 odds 2");
    int[] due = new int[24];
    for (int cell : new int[] {6, 5, 9, 8}) {
      due[cell] |= 1;
    }
    for (int cell : new int[] {9, 6, 7}) {
      due[cell] |= 2;
    }
    due[23] |= 4;
    x.change(0, 7, 1);
    for (int choice = 0; choice <= 1; choice++) {
      x.set(choice * 7);
      for (int cell = 0; cell < 24; cell++) {
        Due.is("whose(" + cell + ", 12)", x.whose(cell, 12), due[cell]);
      }
    }
    x = Due.land("thrower at 3 near 2 far 6 odds 2");
    Due.is("near, SURE 2", x.whose(5, 0), 1);
    Due.is("near, short", x.whose(4, 0), 1);
    Due.is("far, SURE 0", x.whose(9, 0), 0);
    Due.is("far, short", x.whose(8, 0), 1);
    x.change(0, 5, 1);
    Due.is("near, SURE 1", x.whose(5, 0), 1);
    x.change(0, 5, 11);
    Due.is("near, short with SURE 11", x.whose(4, 0), 1);
    x.change(0, 0, 6);
    Due.is("a lad, near", x.whose(4, 0), 1);
    Due.is("a lad, near short", x.whose(3, 0), 0);
    Due.is("a lad, far", x.whose(6, 0), 1);
    for (int w : WRONG) {
      Due.is("whose(w, 0)", x.whose(w, 0), Due.BEYOND);
      Due.is("whose(0, w)", x.whose(0, w), Due.BEYOND);
    }
  }

  private static void from() {
    StonePost x = Due.land("thrower at 0 near 3;road 20 to 22;hedge 10;thrower at 11 odds 12;brook 13");
    Due.is("from(3, 0)", x.from(3, 0), Due.set(3));
    Due.is("from(3, 1)", x.from(3, 1), Due.set(3, 0));
    Due.is("from(2, 1)", x.from(2, 1), Due.set(0));
    Due.is("from(2, 2)", x.from(2, 2), Due.set(1, 2));
    Due.is("from(0, 1)", x.from(0, 1), Due.set(1, 2));
    Due.is("from(23, 2)", x.from(23, 2), Due.set(21, 22, 23));
    Due.is("from(13, 2)", x.from(13, 2), Due.set(9, 10, 11, 12, 13));
    Due.is("from(10, 20)", x.from(10, 20), Due.set(10));
    Due.is("from(1, 1)", x.from(1, 1), 0);
    x.change(0, 6, 1);
    Due.is("by CHOICE", x.from(3, 1), Due.set(3));
    for (int w : WRONG) {
      Due.is("from(w, 0)", x.from(w, 0), Due.BEYOND);
      Due.is("from(0, w)", x.from(0, w), Due.BEYOND);
    }
    Due.is("from(0, 21)", x.from(0, 21), Due.BEYOND);
    x = Due.land("old at 2 near 3 odds 12");
    Due.is("by night and day", x.from(5, 7), Due.set(2, 5));
    Due.is("by night", x.from(5, 5), Due.set(5));
    Due.is("begun beside him", x.from(5, 8), Due.set(0, 1, 2, 3, 4, 5));
  }

  private static void thief() {
    StonePost x = Due.land("road 15 to 22");
    Due.is("each on the way", x.thief(20, 3), Due.set(21, 22));
    Due.is("too few hours: all", x.thief(20, 2), ((1 << 23) - 1) & ~(1 << 20));
    Due.is("never: all", x.thief(3, 20), ((1 << 23) - 1) & ~(1 << 3));
    Due.is("on HOME: none", x.thief(23, 1), 0);
    Due.is("beside HOME: none", x.thief(22, 1), 0);
    x.rule(0, 20);
    Due.is("HOME is elsewhere", x.thief(22, 20), Due.set(21));
    Due.is("HOME is elsewhere", x.thief(21, 20), 0);
    Due.is("HOME is elsewhere", x.thief(18, 20), Due.set(19));
    x.stuff(23, 3);
    Due.is("HOME is elsewhere", x.thief(23, 20), Due.set(21, 22));
    for (int w : WRONG) {
      Due.is("thief(w, 1)", x.thief(w, 1), Due.BEYOND);
      Due.is("thief(1, w)", x.thief(1, w), Due.BEYOND);
    }
    Due.is("thief(1, 0)", x.thief(1, 0), Due.BEYOND);
    Due.is("thief(1, 21)", x.thief(1, 21), Due.BEYOND);
  }

  private static void thiefOfMany() {
    StonePost x = Due.land("thrower at 10 near 4;lad at 14 near 8;lad at 13 near 8;thrower at 18 near 5 odds 12;lad at 17 near 2 far 2;fetch 0");
    Due.is("two ways, joined", x.thief(10, 20), Due.set(18));
    x.change(4, 2, 9);
    Due.is("one of the ways ends on grass", x.thief(10, 20), Due.set(14, 18));
    x.change(2, 2, 9);
    x.change(4, 2, 2);
    Due.is("the ways are as they were", x.thief(10, 20), Due.set(18));
    x.stuff(17, 1);
    Due.is("one way", x.thief(10, 20), Due.set(14, 18));
    x.change(3, 6, 1);
    x.change(3, 3, 2);
    Due.is("by CHOICE never", x.thief(10, 20), ((1 << 23) - 1) & ~(1 << 10));
  }

  /** Throwers that throw to their own cells, by hours, without draws: THANKS as told. */
  private static StonePost withThanks(int... thanks) {
    StonePost x = new StonePost();
    x.rule(1, 0);
    for (int t = 0; t < thanks.length; t++) {
      x.thrower(0, t);
      x.change(t, 2, 1);
      x.change(t, 5, 0);
      if (thanks[t] > 0) {
        x.letter(t);
        x.hours(thanks[t]);
        x.take(0);
      }
      Due.is("THANKS", x.of(t, 8), thanks[t]);
    }
    return x;
  }

  private static void gifts() {
    Due.is("nobody", new StonePost().gifts(), 0);
    Due.is("one", withThanks(7).gifts(), 0);
    Due.is("even", withThanks(4, 4, 4).gifts(), 0);
    Due.is("to one", withThanks(0, 6).gifts(), 1);
    Due.is("a cut mean, none is below it", withThanks(3, 4, 3).gifts(), 0);
    Due.is("a cut mean", withThanks(7, 1, 1, 0).gifts(), 3);
    Due.is("from two", withThanks(3, 3, 0).gifts(), 2);
    Due.is("two and two", withThanks(5, 5, 1, 1).gifts(), 2);
    Due.is("one of most after another", withThanks(9, 8, 0, 0, 3).gifts(), 3);
    Due.is("all from one", withThanks(40, 0, 0, 0, 0, 0, 0, 0, 0, 0).gifts(), 9);
    Due.is("mean 0", withThanks(1, 0, 0).gifts(), 0);
    Due.is("one gives till he has the mean", withThanks(0, 5, 0, 3).gifts(), 3);
  }

  private static void giftsOfOthers() {
    StonePost x = withThanks(6, 0);
    x.change(0, 7, 1);
    Due.is("the ill, too", x.gifts(), 1);
    Due.is("nothing changes", x.of(0, 8), 6);
    Due.is("nothing changes", x.of(1, 8), 0);
    Due.is("again", x.gifts(), 1);
  }

  private static void seed() {
    StonePost x = new StonePost();
    Due.is("seed(5)", x.seed(5), 1);
    Due.is("seed(-2000000000)", x.seed(-2000000000), 5);
    Due.is("count(6)", x.count(6), -2000000000);
    Due.is("seed(BEYOND)", x.seed(Due.BEYOND), -2000000000);
    Due.is("seed(1)", x.seed(1), Due.BEYOND);
    Due.is("no finding", x.status(-1), 0);
  }
}
