/** Promises 22 to 29: the best throws. */
public final class BestTest {
  private static final int[] WRONG = {-1, 24, Integer.MIN_VALUE, Integer.MAX_VALUE};

  public static void main(String[] args) {
    best();
    bestAnewEachTime();
    bestByClock();
    choose();
    chooseWrong();
    plan();
    planWrong();
    planOfEight();
    set();
    missed();
    missedWrong();
    stand();
    standWrong();
    fetchFor();
    copies();
    nothingChanges();
    Due.end();
  }

  private static void best() {
    StonePost x = Due.land("thrower at 20 far 3");
    Due.is("best(20, 0)", x.best(20, 0), 0);
    Due.is("best(20, 1)", x.best(20, 1), 6);
    Due.is("best(20, 2)", x.best(20, 2), 72);
    Due.is("best(20, 3)", x.best(20, 3), 6 * 144 + 6 * 12 * 6);
    Due.is("best(22, 2)", x.best(22, 2), 72);
    Due.is("best(23, 0)", x.best(23, 0), 1);
    Due.is("best(23, 15)", x.best(23, 15), 15407021574586368L);
    Due.is("best(0, 15)", x.best(0, 15), 0);
    StonePost y = Due.land("thrower at 0 near 3;home 3");
    Due.is("from the first cell", y.best(0, 1), 8);
    Due.is("from the last cells", Due.land("road 22").best(22, 1), 12);
    x.change(0, 7, 1);
    Due.is("ill", x.best(20, 3), 0);
    for (int w : WRONG) {
      Due.is("best(w, 0)", x.best(w, 0), Due.BEYOND);
      Due.is("best(0, w)", x.best(0, w), Due.BEYOND);
    }
    Due.is("best(0, 16)", x.best(0, 16), Due.BEYOND);
  }

  /** NEAR is safe and slow, FAR is quick: 12 parts of 12 in two hours, else 6 in one. */
  private static StonePost safeOrQuick() {
    return Due.land("thrower at 15 near 3 far 8 odds 8;lad at 18 near 9;brook 22;thrower at 17 near 1 odds 12;lad at 19 near 8;fetch 0");
  }

  private static void bestAnewEachTime() {
    StonePost x = safeOrQuick();
    x.rule(0, 23);
    Due.is("one hour: FAR", x.best(15, 1), 6);
    Due.is("two hours: FAR", x.best(15, 2), 72);
    Due.is("three hours", x.best(15, 3), 864);
    x.change(1, 2, 9);
    x.change(1, 3, 10);
    Due.is("18 with FAR", x.best(18, 1), 12);
    Due.is("two hours: NEAR, then FAR", x.best(15, 2), 8 * 12);
    Due.is("three hours: NEAR, and from 17 one more", x.best(15, 3), 8 * 144 + 4 * 12 * 12);
  }

  private static void bestByClock() {
    StonePost x = Due.land("old at 20 near 3 far 4 odds 12;brook 22");
    Due.is("by night FAR", x.best(20, 1), 10);
    Due.is("choose by night", x.choose(0, 1), 1);
    x.hours(5);
    Due.is("choose in the last hour of the night", x.choose(0, 1), 1);
    x.hours(1);
    Due.is("by day NEAR", x.best(20, 1), 12);
    Due.is("choose by day", x.choose(0, 1), 0);
    x = Due.land("old at 5 near 2 far 6 odds 12;thrower at 7 near 7 odds 6;lad at 10 near 8;home 14;fetch 0");
    x.hours(17);
    Due.is("choose in the last hour of the day", x.choose(0, 2), 0);
    x.hours(1);
    Due.is("and in the first of the night", x.choose(0, 2), 1);
  }

  private static void choose() {
    StonePost x = safeOrQuick();
    x.change(1, 3, 10);
    Due.is("one hour is left", x.choose(0, 1), 1);
    Due.is("two are left", x.choose(0, 2), 0);
    Due.is("CHOICE", x.of(0, 6), 0);
    Due.is("of two that do the least", x.choose(2, 1), 0);
    x.change(0, 6, 1);
    Due.is("whatever CHOICE is", x.choose(0, 2), 0);
    Due.is("choose(1, 15)", x.choose(1, 15), 1);
  }

  private static void chooseWrong() {
    StonePost x = Due.land("thrower at 15;thrower at 23;thrower at 9;brook 9;thrower at 4");
    x.change(3, 7, 1);
    Due.is("on HOME", x.choose(1, 1), Due.STATE);
    Due.is("in a BROOK", x.choose(2, 1), Due.STATE);
    Due.is("ill", x.choose(3, 1), Due.STATE);
    Due.is("beyond ahead of that", x.choose(1, 0), Due.BEYOND);
    Due.is("beyond ahead of that", x.choose(2, 16), Due.BEYOND);
    Due.is("no such one", x.choose(4, 1), Due.BEYOND);
    for (int w : WRONG) {
      Due.is("choose(w, 1)", x.choose(w, 1), Due.BEYOND);
      Due.is("choose(0, w)", x.choose(0, w), Due.BEYOND);
    }
    Due.is("status(4)", x.status(4), 3);
  }

  private static void plan() {
    StonePost x = safeOrQuick();
    x.change(1, 3, 10);
    Due.is("one hour", x.plan(15, 1), Due.set(0));
    Due.is("two hours", x.plan(15, 2), Due.set(1));
    Due.is("on HOME", x.plan(23, 1), 0);
    Due.is("never", x.plan(3, 8), 0);
    x.set(15);
    Due.is("CHOICES that are", x.plan(15, 2), Due.set(1));
    Due.is("stay", x.of(3, 6), 1);
    x.change(1, 7, 1);
    Due.is("one is ill", x.plan(15, 2), Due.set(0));
    Due.is("no throwers", new StonePost().plan(0, 8), 0);
  }

  private static void planWrong() {
    StonePost x = new StonePost();
    for (int t = 0; t < 9; t++) {
      x.thrower(0, t);
      x.change(t, 7, 1);
    }
    Due.is("nine, though ill", x.plan(0, 8), Due.SIZE);
    Due.is("plan(0, 9)", x.plan(0, 9), Due.BEYOND);
    Due.is("plan(0, 0)", x.plan(0, 0), Due.BEYOND);
    for (int w : WRONG) {
      Due.is("plan(w, 1)", x.plan(w, 1), Due.BEYOND);
      Due.is("plan(0, w)", x.plan(0, w), Due.BEYOND);
    }
    Due.is("status(6)", x.status(6), 1);
  }

  private static void planOfEight() {
    StonePost x = new StonePost();
    for (int t = 0; t < 8; t++) {
      x.thrower(0, 3 * t);
      x.change(t, 2, 1);
      x.change(t, 3, 3);
      x.change(t, 5, 12);
    }
    x.rule(1, 0);
    x.rule(0, 21);
    Due.is("seven FAR throws", x.plan(0, 7), 127);
    Due.is("four FAR throws", x.plan(9, 4), 8 + 16 + 32 + 64);
    x.rule(0, 22);
    Due.is("and one NEAR", x.plan(0, 8), 127);
  }

  private static void set() {
    StonePost x = Due.land("thrower at 0;thrower at 1;thrower at 2");
    Due.is("set(5)", x.set(5), 2);
    Due.is("of(0, 6)", x.of(0, 6), 1);
    Due.is("of(1, 6)", x.of(1, 6), 0);
    Due.is("of(2, 6)", x.of(2, 6), 1);
    Due.is("set(5) again", x.set(5), 0);
    Due.is("set(2)", x.set(2), 3);
    for (int w : new int[] {8, -1, Integer.MIN_VALUE, Integer.MAX_VALUE}) {
      Due.is("set(" + w + ")", x.set(w), Due.BEYOND);
    }
    Due.is("unchanged", x.of(1, 6), 1);
    Due.is("set(7)", x.set(7), 2);
    Due.is("set(0)", x.set(0), 3);
    Due.is("nobody", new StonePost().set(0), 0);
    Due.is("nobody", new StonePost().set(1), Due.BEYOND);
    StonePost y = new StonePost();
    for (int t = 0; t < 10; t++) {
      y.thrower(0, t);
    }
    Due.is("ten", y.set(1023), 10);
    Due.is("ten", y.set(1024), Due.BEYOND);
  }

  private static void missed() {
    StonePost x = Due.land("lad at 2;thrower at 14 near 4 odds 6;thrower at 10 near 4 odds 12;lad at 18 near 9 far 10;fetch 4");
    x.change(3, 6, 1);
    Due.is("all without the first one", x.missed(10, 3), 1);
    Due.is("nobody: of all the least", x.missed(23, 1), 0);
    x.change(0, 7, 1);
    Due.is("nobody: of those not ill the least", x.missed(23, 10), 1);
    Due.is("18 throws it", x.missed(18, 1), 3);
    Due.is("10 is as near to 14 as 18, so both are needed", x.missed(14, 2), 1);
    x.walk(2, 9);
    Due.is("18 alone is near to 14", x.missed(14, 2), 3);
    Due.is("unchanged", x.of(3, 7), 0);
    Due.is("unchanged", x.of(0, 7), 1);
    x.set(0);
    Due.is("CHOICES as they are", x.missed(18, 1), 1);
    Due.is("each one by himself", Due.land("thrower at 20 near 3;thrower at 21").missed(20, 3), 0);
  }

  private static void missedWrong() {
    StonePost x = Due.land("thrower at 3;thrower at 5");
    x.change(0, 7, 1);
    x.change(1, 7, 1);
    Due.is("all are ill", x.missed(0, 1), Due.NONE);
    Due.is("nobody", new StonePost().missed(0, 10), Due.NONE);
    Due.is("missed(0, 0)", x.missed(0, 0), Due.BEYOND);
    Due.is("missed(0, 11)", x.missed(0, 11), Due.BEYOND);
    for (int w : WRONG) {
      Due.is("missed(w, 1)", x.missed(w, 1), Due.BEYOND);
      Due.is("missed(0, w)", x.missed(0, w), Due.BEYOND);
    }
    Due.is("status(3)", x.status(3), 1);
  }

  private static void stand() {
    StonePost x = new StonePost();
    Due.is("who has it fetched HOME", x.stand(21, 1), 23);
    Due.is("who throws it HOME either way", x.stand(22, 1), 22);
    Due.is("fetched, then thrown either way", x.stand(20, 2), 22);
    x.rule(1, 0);
    Due.is("not fetched", x.stand(22, 1), 22);
    Due.is("none helps: the least", x.stand(5, 1), 0);
    x.thrower(0, 0);
    x.thrower(0, 1);
    x.change(1, 7, 1);
    Due.is("none helps: the least without one, ill or not", x.stand(5, 1), 2);
    x = new StonePost();
    x.rule(0, 10);
    Due.is("NEAR by 2, short on HOME", x.stand(9, 1), 10);
    x.thrower(0, 10);
    x.change(0, 7, 1);
    Due.is("one ill on HOME", x.stand(9, 1), 9);
    Due.is("count(1)", x.count(1), 1);
    x.rule(1, 9);
    Due.is("to HOME in 2", x.stand(5, 2), 8);
  }

  private static void standWrong() {
    StonePost x = new StonePost();
    for (int t = 0; t < 10; t++) {
      x.thrower(0, t);
    }
    Due.is("full", x.stand(0, 1), Due.FULL);
    Due.is("stand(0, 0)", x.stand(0, 0), Due.BEYOND);
    Due.is("stand(0, 11)", x.stand(0, 11), Due.BEYOND);
    for (int w : WRONG) {
      Due.is("stand(w, 1)", x.stand(w, 1), Due.BEYOND);
      Due.is("stand(0, w)", x.stand(0, w), Due.BEYOND);
    }
    Due.is("status(1)", x.status(1), 1);
  }

  private static void fetchFor() {
    StonePost x = Due.land("thrower at 20 near 3;brook 14;thrower at 14");
    Due.is("no matter", x.fetchFor(20, 1), 0);
    Due.is("from 18", x.fetchFor(18, 2), 2);
    Due.is("from 17 the brook's is as near", x.fetchFor(17, 10), 0);
    Due.is("from 23", x.fetchFor(23, 1), 0);
    Due.is("again and again", x.fetchFor(20, 3), 2);
    x.change(1, 7, 1);
    Due.is("from 11", x.fetchFor(11, 2), 9);
    Due.is("from 10", x.fetchFor(10, 2), 0);
    Due.is("FETCH", x.rule(1, 5), 2);
    for (int w : WRONG) {
      Due.is("fetchFor(w, 1)", x.fetchFor(w, 1), Due.BEYOND);
      Due.is("fetchFor(0, w)", x.fetchFor(0, w), Due.BEYOND);
    }
    Due.is("fetchFor(0, 0)", x.fetchFor(0, 0), Due.BEYOND);
    Due.is("fetchFor(0, 11)", x.fetchFor(0, 11), Due.BEYOND);
  }

  private static void copies() {
    StonePost x = Due.land("thrower at 20 near 3");
    Due.is("copies(20, 0)", x.copies(20, 0), 0);
    Due.is("copies(23, 0)", x.copies(23, 0), 1);
    Due.is("copies(20, 1)", x.copies(20, 1), 144 - 16);
    Due.is("copies(20, 2)", x.copies(20, 2), 20736 - 48 * 48);
    Due.is("copies(20, 3)", x.copies(20, 3), 2985984 - 192 * 192);
    Due.is("copies(23, 7)", x.copies(23, 7), 1283918464548864L);
    for (int w : WRONG) {
      Due.is("copies(w, 1)", x.copies(w, 1), Due.BEYOND);
      Due.is("copies(0, w)", x.copies(0, w), Due.BEYOND);
    }
    Due.is("copies(0, 8)", x.copies(0, 8), Due.BEYOND);
  }

  private static void nothingChanges() {
    StonePost x = Due.land("thrower at 20 near 3;strong at 15;letter 20;fetch 3");
    x.best(15, 15);
    x.choose(0, 15);
    x.plan(15, 8);
    x.missed(15, 10);
    x.stand(15, 10);
    x.fetchFor(15, 10);
    x.copies(15, 7);
    Due.is("HOUR", x.count(0), 0);
    Due.is("THROWERS", x.count(1), 2);
    Due.is("ill", x.count(4), 0);
    Due.is("z", x.count(6), 1);
    Due.is("FETCH", x.rule(1, 3), 3);
    Due.is("CHOICES", x.of(0, 6) + x.of(1, 6), 0);
    Due.is("status", x.status(-1), 0);
  }
}
