/** Promises 45 to 49: images, count, status. */
public final class ImagesTest {
  public static void main(String[] args) {
    imageAndUndo();
    whatIsNotKept();
    latestIsKept();
    tear();
    count();
    countWrong();
    status();
    statusOfEachFinding();
    Due.end();
  }

  private static void imageAndUndo() {
    StonePost x = Due.land("brook 3;home 20;fetch 4;old at 5 near 3 odds 4;letter 5;letter 9");
    x.hours(3);
    x.seed(1234);
    x.hold(2, 0);
    int thanks = x.of(0, 8);
    int first = x.where(0);
    Due.is("image()", x.image(), 1);
    x.stuff(3, 0);
    x.rule(0, 0);
    x.rule(1, 9);
    int[] whats = {0, 2, 3, 4, 5, 6, 7};
    int[] values = {3, 9, 12, 0, 12, 1, 1};
    for (int i = 0; i < whats.length; i++) {
      x.change(0, whats[i], values[i]);
    }
    x.walk(0, 7);
    x.thrower(6, 8);
    x.letter(8);
    x.take(0);
    x.hours(10);
    x.seed(99);
    x.hold(2, 1);
    x.hold(9, 0);
    Due.is("undo()", x.undo(), 3);
    Due.is("HOUR", x.count(0), 3);
    Due.is("THROWERS", x.count(1), 1);
    Due.is("LETTERS", x.count(2), 2);
    Due.is("z", x.count(6), 1234);
    Due.is("SPOTS", x.count(7), 1);
    Due.is("a SPOT", x.as(2, 5), 0);
    Due.is("STUFF", x.stuff(3, 1), 1);
    Due.is("HOME", x.rule(0, 20), 20);
    Due.is("FETCH", x.rule(1, 4), 4);
    Due.is("a LETTER", x.where(0), first);
    int[] due = {5, 5, 3, 5, 1, 4, 0, 0, thanks};
    for (int what = 0; what <= 8; what++) {
      Due.is("of(0, " + what + ")", x.of(0, what), due[what]);
    }
    x.hours(7);
    x.stuff(3, 2);
    Due.is("it stays", x.undo(), 3);
    Due.is("STUFF", x.stuff(3, 1), 1);
    Due.is("HOUR", x.count(0), 3);
  }

  private static void whatIsNotKept() {
    StonePost x = new StonePost();
    x.sheet(0, 8, 2);
    Due.feed(x, "home 3");
    x.image();
    x.write(0, 0, 3);
    x.sheet(1, 16, 4);
    Due.feed(x, ";fetch 1");
    x.stuff(99, 0);
    x.undo();
    Due.is("THE TAPE", x.count(5), 14);
    Due.is("status", x.status(-1), 1);
    Due.is("a sheet", x.load(0), 2);
    Due.is("its number", x.stuff(0, 0), 3);
    Due.is("another sheet", x.load(1), 4);
    Due.is("the text", x.text(), 2);
    x.undo();
    Due.is("THE TAPE stays empty", x.count(5), 0);
    Due.is("HOME is undone", x.rule(0, 5), 23);
  }

  private static void latestIsKept() {
    StonePost x = new StonePost();
    x.image();
    x.hours(5);
    Due.is("image()", x.image(), 1);
    x.hours(5);
    Due.is("the latest", x.undo(), 5);
    Due.is("the latest", x.undo(), 5);
    Due.is("tear()", x.tear(), 1);
    Due.is("not the one ahead of it", x.undo(), Due.NONE);
  }

  private static void tear() {
    StonePost x = new StonePost();
    Due.is("nothing", x.tear(), 0);
    Due.is("undo()", x.undo(), Due.NONE);
    x.image();
    Due.is("something", x.tear(), 1);
    Due.is("nothing", x.tear(), 0);
    x.hours(2);
    Due.is("undo()", x.undo(), Due.NONE);
    Due.is("HOUR", x.count(0), 2);
    x.image();
    Due.is("again", x.undo(), 2);
    Due.is("status(3)", x.status(3), 2);
  }

  private static void count() {
    StonePost x = Due.land("thrower at 5 near 1 odds 0;thrower at 9 near 1 odds 0;thrower at 1;letter 5;letter 9;letter 9;letter 23");
    x.hours(7);
    x.change(2, 7, 1);
    x.hold(4, 1);
    x.hold(5, 1);
    Due.feed(x, "home 3");
    x.seed(-5);
    int[] due = {7, 3, 4, 21, 1, 6, -5, 2};
    for (int what = 0; what < due.length; what++) {
      Due.is("count(" + what + ")", x.count(what), due[what]);
    }
    x.change(0, 7, 1);
    Due.is("count(4)", x.count(4), 2);
  }

  private static void countWrong() {
    StonePost x = new StonePost();
    for (int w : new int[] {-1, 8, Integer.MIN_VALUE, Integer.MAX_VALUE}) {
      Due.is("count(" + w + ")", x.count(w), Due.BEYOND);
    }
    x.seed(Due.SIZE);
    Due.is("z is no finding", x.count(6), Due.SIZE);
    Due.is("status(-1)", x.status(-1), 4);
    Due.is("status(6)", x.status(6), 0);
  }

  private static void status() {
    StonePost x = new StonePost();
    Due.is("status(7)", x.status(7), Due.BEYOND);
    Due.is("counted from then on", x.status(0), 1);
    Due.is("status(-2)", x.status(-2), Due.BEYOND);
    Due.is("status(least)", x.status(Integer.MIN_VALUE), Due.BEYOND);
    Due.is("status(most)", x.status(Integer.MAX_VALUE), Due.BEYOND);
    Due.is("all", x.status(-1), 4);
    Due.is("BEYOND", x.status(0), 4);
    x.image();
    x.where(5);
    x.undo();
    Due.is("undo() takes none back", x.status(0), 5);
    Due.is("longs, too", x.odds(0, 0, 24) + x.lost(0, -1) + x.best(0, -1) + x.copies(0, -1), 4L * Due.BEYOND);
    Due.is("longs are counted", x.status(0), 9);
  }

  private static void statusOfEachFinding() {
    StonePost x = new StonePost();
    for (int i = 0; i < 12; i++) {
      x.letter(0);
    }
    x.thrower(0, 5);
    x.hold(0, 0);
    x.letter(24);
    for (int i = 0; i < 2; i++) {
      x.letter(0);
    }
    for (int i = 0; i < 3; i++) {
      x.as(0, 6);
    }
    for (int i = 0; i < 4; i++) {
      x.undo();
    }
    for (int i = 0; i < 5; i++) {
      x.thrower(0, 5);
    }
    for (int i = 0; i < 6; i++) {
      x.as(1, 0);
    }
    for (int i = 0; i < 7; i++) {
      x.sheet(0, 8, -1);
    }
    for (int which = 0; which <= 6; which++) {
      Due.is("status(" + which + ")", x.status(which), which + 1);
    }
    Due.is("status(-1)", x.status(-1), 28);
  }
}
