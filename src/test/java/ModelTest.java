import java.lang.reflect.Method;
import java.util.ArrayList;
import java.util.Arrays;
import java.util.List;
import java.util.Random;

/** Whole lives of an object, drawn from fixed seeds, on the class and on the model: every answer must be the same. */
public final class ModelTest {
  private static final int RUNS = 400;
  /** The document promises nothing behind the 512th call. */
  private static final int CALLS = 512;
  private static final int[] WILD = {-1, -2, 24, 41, 61, 100, 255, 65536, -1000001, Integer.MIN_VALUE, Integer.MAX_VALUE};

  /** A call, how often it is drawn, and the ranges of its arguments; t: a thrower, l: a letter, i: any int. */
  private static final String[] CALLS_DRAWN = {
    "stuff 4 0-23 0-3", "rule 3 0-1 0-23", "thrower 5 0-6 0-23", "of 5 t 0-8", "change 8 t 0-8 0-12",
    "walk 3 t 0-23", "told 3 t 0-1 0-1 0-23", "falls 3 t 0-1 0-23 b", "next 3 0-23", "letter 5 0-23",
    "where 5 l", "take 2 l", "hours 5 1-48", "letters 3 0-2", "odds 3 0-23 0-15 0-23", "lost 3 0-23 0-15",
    "likeliest 3 0-23 0-15", "fewest 4 0-23", "free 4 0-23", "may 3 0-23 0-60", "best 3 0-23 0-15",
    "choose 3 t 1-15", "plan 1 0-23 1-8", "set 2 0-63", "missed 2 0-23 1-10", "stand 1 0-23 1-10",
    "fetchFor 2 0-23 1-10", "copies 2 0-23 0-7", "whose 3 0-23 0-23", "from 2 0-23 0-20", "thief 2 0-23 1-20",
    "gifts 4", "seed 1 i", "feed 1 i 1-4", "wipe 1", "hold 3 0-9 t", "as 4 0-9 0-6", "sheet 2 0-3 w 0-40",
    "write 6 0-3 0-12 0-25", "copy 3 0-3 0-8 0-3 0-8 0-8", "load 1 0-3", "judge 3 0-3 l", "image 1", "undo 1",
    "tear 1", "count 4 0-7", "status 3 -1-6"
  };
  private static final String[] WORDS = {
    "grass", "brook", "hedge", "road", "home", "fetch", "thrower", "strong", "shaky", "giant", "blind", "old",
    "lad", "letter", "at", "to", "near", "far", "odds", "west", ";", "?", "3", "12"
  };

  private final Random random;
  private final StonePost post = new StonePost();
  private final Model model = new Model();
  private final List<String> calls = new ArrayList<>();
  private boolean isSame = true;

  private ModelTest(long seed) {
    random = new Random(seed);
  }

  public static void main(String[] args) throws ReflectiveOperationException {
    for (int run = 0; run < RUNS; run++) {
      ModelTest one = new ModelTest(run);
      while (one.calls.size() < CALLS && one.isSame) {
        one.drawCall();
      }
      Due.isTrue("run " + run + " is as the model's: " + one.calls, one.isSame);
    }
    Due.end();
  }

  private int upTo(int n) {
    return random.nextInt(n);
  }

  private void drawCall() throws ReflectiveOperationException {
    int weights = 0;
    for (String drawn : CALLS_DRAWN) {
      weights += Integer.parseInt(drawn.split(" ")[1]);
    }
    int at = upTo(weights + 3);
    for (String drawn : CALLS_DRAWN) {
      String[] parts = drawn.split(" ");
      at -= Integer.parseInt(parts[1]);
      if (at < 0) {
        call(parts[0], arguments(parts));
        return;
      }
    }
    readText();
  }

  private Object[] arguments(String[] parts) {
    Object[] args = new Object[parts.length - 2];
    for (int i = 0; i < args.length; i++) {
      args[i] = argument(parts[i + 2]);
    }
    return args;
  }

  private Object argument(String range) {
    if (range.equals("b")) {
      return random.nextBoolean();
    }
    if (range.equals("i")) {
      return random.nextInt();
    }
    if (upTo(60) == 0) {
      return WILD[upTo(WILD.length)];
    }
    if (range.equals("t")) {
      return upTo(Math.max(1, model.throwersNow()));
    }
    if (range.equals("l")) {
      return upTo(Math.max(1, model.lettersNow()));
    }
    if (range.equals("w")) {
      return new int[] {0, 8, 8, 8, 8, 16, 16, 32}[upTo(8)];
    }
    int dash = range.indexOf('-', 1);
    int least = Integer.parseInt(range.substring(0, dash));
    int most = Integer.parseInt(range.substring(dash + 1));
    if (upTo(40) == 0) {
      return random.nextBoolean() ? least - 1 : most + 1;
    }
    return least + upTo(most - least + 1);
  }

  private void call(String name, Object... args) throws ReflectiveOperationException {
    if (calls.size() == CALLS) {
      return;
    }
    long want = answer(model, name, args);
    long got = answer(post, name, args);
    calls.add(name + Arrays.toString(args) + " " + got + (got == want ? "" : ", due is " + want));
    isSame = isSame && got == want;
  }

  private static long answer(Object on, String name, Object[] args) throws ReflectiveOperationException {
    for (Method m : on.getClass().getDeclaredMethods()) {
      if (m.getName().equals(name) && m.getParameterCount() == args.length) {
        return ((Number) m.invoke(on, args)).longValue();
      }
    }
    throw new NoSuchMethodException(name);
  }

  private void readText() throws ReflectiveOperationException {
    String text = drawText();
    for (int at = 0; at < text.length(); at += 4) {
      int n = Math.min(4, text.length() - at);
      int bytes = upTo(256);
      for (int i = 0; i < n; i++) {
        bytes = bytes << 8 | text.charAt(at + i) & 255;
      }
      call("feed", bytes, n);
    }
    call("text");
  }

  private String drawText() {
    StringBuilder b = new StringBuilder();
    int items = 1 + upTo(6);
    for (int i = 0; i < items; i++) {
      b.append(i == 0 ? "" : ";").append(drawItem());
    }
    if (upTo(3) == 0) {
      b.insert(upTo(b.length() + 1), upTo(2) == 0 ? " " : WORDS[upTo(WORDS.length)]);
    }
    if (upTo(4) == 0) {
      b.deleteCharAt(upTo(b.length()));
    }
    if (upTo(12) == 0) {
      b.setCharAt(upTo(b.length()), (char) upTo(256));
    }
    b.setLength(Math.min(b.length(), 120));
    return b.toString();
  }

  private String drawItem() {
    int cell = upTo(24);
    switch (upTo(5)) {
      case 0:
        return WORDS[upTo(4)] + " " + cell + (upTo(2) == 0 ? "" : " to " + (cell + upTo(5)));
      case 1:
        return "home " + (upTo(2) == 0 ? 23 : cell);
      case 2:
        return "fetch " + upTo(10);
      case 3:
        return "letter " + cell;
      default:
        return WORDS[6 + upTo(7)] + " at " + cell + (upTo(2) == 0 ? "" : " near " + (1 + upTo(9)))
            + (upTo(2) == 0 ? "" : " far " + (1 + upTo(12))) + (upTo(2) == 0 ? "" : " odds " + upTo(13))
            + (upTo(4) == 0 ? " west" : "");
    }
  }
}
