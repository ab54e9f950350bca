/** What the tests share: answers that are due, findings, and texts on the tape. */
final class Due {
  static final int BEYOND = -1000001;
  static final int FULL = -1000002;
  static final int KIND = -1000003;
  static final int NONE = -1000004;
  static final int STATE = -1000005;
  static final int MISSING = -1000006;
  static final int SIZE = -1000007;

  private static int asked = 0;
  private static int wrong = 0;

  private Due() {
  }

  static void is(String call, long got, long want) {
    asked++;
    if (got != want) {
      wrong++;
      System.out.println(call + " answered " + got + ", due is " + want);
    }
  }

  static void isTrue(String what, boolean holds) {
    asked++;
    if (!holds) {
      wrong++;
      System.out.println("does not hold: " + what);
    }
  }

  /** Feeds a text, up to four bytes a call. */
  static void feed(StonePost x, String text) {
    for (int at = 0; at < text.length(); at += 4) {
      int n = Math.min(4, text.length() - at);
      int bytes = 0;
      for (int i = 0; i < n; i++) {
        bytes = bytes << 8 | text.charAt(at + i) & 255;
      }
      x.feed(bytes, n);
    }
  }

  static int text(StonePost x, String text) {
    feed(x, text);
    return x.text();
  }

  /** A new object with the land of a text. */
  static StonePost land(String text) {
    StonePost x = new StonePost();
    isTrue("a text: " + text, text(x, text) > 0);
    return x;
  }

  static int set(int... members) {
    int bits = 0;
    for (int m : members) {
      bits |= 1 << m;
    }
    return bits;
  }

  static void end() {
    System.out.println(asked + " asked, " + wrong + " wrong");
    if (wrong != 0) {
      System.exit(1);
    }
  }
}
