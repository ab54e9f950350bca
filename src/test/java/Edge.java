import java.lang.reflect.InvocationTargetException;
import java.lang.reflect.Method;
import java.util.ArrayList;
import java.util.Arrays;
import java.util.HashMap;
import java.util.List;
import java.util.Map;
import java.util.Set;
import java.util.regex.Matcher;
import java.util.regex.Pattern;

/**
 * Tests by sentences of the document. Each is named by its promise and is a run of calls on a new object, a row
 * a call: "stuff(24, 0) = BEYOND". A row without an answer must be no finding. More that a row may have:
 * "208 * hours(48)" that call so often; "0..9: as(#, 0) = MISSING" it for each; fed("home 3") the bytes by feed(),
 * text("home 3") these and then text(); {1, 5} a set; ALL 12 to the 15; MIN and MAX the ints at the ends.
 *
 * <p>Whatever is refused, and whatever only asks, is made twice: one object with it and one without it must be
 * alike in all but status() afterwards, and that counts just the one finding. A text() with a FAULT must be as a
 * wipe().
 */
final class Edge {
  static final String ALL = "15407021574586368";

  private static final int CALLS_MOST = 512;
  private static final Pattern NAME = Pattern.compile("(Terms [0-3]|Promise [0-9]+): .+");
  private static final Pattern EACH = Pattern.compile("(-?[0-9]+)\\.\\.(-?[0-9]+): (.*)");
  private static final Pattern OFTEN = Pattern.compile("([0-9]+) \\* (.*)");
  private static final Pattern BYTES = Pattern.compile("(fed|text)\\(\"([^\"]*)\"\\)(?: = (.+))?", Pattern.DOTALL);
  private static final Pattern CALL = Pattern.compile("([a-zA-Z]+)\\(([^()]*)\\)(?: = (.+))?");
  private static final Set<String> QUESTIONS = Set.of("of", "told", "falls", "next", "where", "letters", "odds", "lost",
      "likeliest", "fewest", "free", "may", "best", "choose", "plan", "missed", "stand", "fetchFor", "copies", "whose",
      "from", "thief", "gifts", "as", "judge", "count", "status");
  private static final List<String> FINDINGS =
      List.of("BEYOND", "FULL", "KIND", "NONE", "STATE", "MISSING", "SIZE");
  private static final Map<String, Method> FACE = face();

  /** A call with its arguments and the answer that is due, null where any but a finding is. */
  private record Call(String name, Object[] args, Long due) {
    boolean tellsZ() {
      return name.equals("seed") || name.equals("count") && args[0].equals(6);
    }

    boolean isFinding(long answer) {
      return !tellsZ() && finding(answer) >= 0;
    }

    @Override
    public String toString() {
      return name + Arrays.toString(args);
    }
  }

  private final String name;
  private final List<Call> calls = new ArrayList<>();

  private Edge(String name, String... rows) {
    this.name = name;
    Due.isTrue("a test named by its promise: " + name, NAME.matcher(name).matches());
    for (String row : rows) {
      addRow(row);
    }
  }

  /** A run of calls, each with the answer that is due. */
  static void holds(String name, String... rows) {
    new Edge(name, rows).run();
  }

  /** Of the last row's # the first and the last value that are taken, and those beside them that are BEYOND. */
  static void range(String name, int least, int most, String... rows) {
    String[] run = rows.clone();
    String last = rows[rows.length - 1];
    for (long v : new long[] {least, most}) {
      run[run.length - 1] = last.replace("#", "" + v);
      new Edge(name + ", taken", run).run();
    }
    for (long v : new long[] {least - 1L, most + 1L, Integer.MIN_VALUE, Integer.MAX_VALUE}) {
      if ((v < least || v > most) && v == (int) v) {
        run[run.length - 1] = last.replace("#", "" + v) + " = BEYOND";
        new Edge(name + ", refused", run).run();
      }
    }
  }

  /** Rows, and more behind them. */
  static String[] rows(String[] first, String... then) {
    String[] rows = Arrays.copyOf(first, first.length + then.length);
    System.arraycopy(then, 0, rows, first.length, then.length);
    return rows;
  }

  static void end() {
    Due.end();
  }

  private static Map<String, Method> face() {
    Map<String, Method> face = new HashMap<>();
    for (Method m : StonePost.class.getMethods()) {
      if (m.getDeclaringClass() == StonePost.class) {
        face.put(m.getName(), m);
      }
    }
    return face;
  }

  /** Which finding an answer is, as status() numbers them; -1: none. */
  private static int finding(long answer) {
    return answer <= Due.BEYOND && answer >= Due.SIZE ? (int) (Due.BEYOND - answer) : -1;
  }

  private void addRow(String row) {
    Matcher each = EACH.matcher(row);
    if (each.matches()) {
      for (int v = Integer.parseInt(each.group(1)); v <= Integer.parseInt(each.group(2)); v++) {
        addRow(each.group(3).replace("#", "" + v));
      }
      return;
    }
    Matcher often = OFTEN.matcher(row);
    if (often.matches()) {
      for (int i = 0; i < Integer.parseInt(often.group(1)); i++) {
        addRow(often.group(2));
      }
      return;
    }
    Matcher bytes = BYTES.matcher(row);
    if (bytes.matches()) {
      addBytes(bytes.group(1), bytes.group(2), bytes.group(3));
      return;
    }
    Matcher call = CALL.matcher(row);
    Due.isTrue("a row of " + name + ": " + row, call.matches() && FACE.containsKey(call.group(1)));
    calls.add(new Call(call.group(1), arguments(call.group(2)), due(call.group(3))));
  }

  private void addBytes(String how, String text, String due) {
    for (int at = 0; at < text.length(); at += 4) {
      int n = Math.min(4, text.length() - at);
      int bytes = 0;
      for (int i = 0; i < n; i++) {
        bytes = bytes << 8 | text.charAt(at + i) & 255;
      }
      boolean isLast = how.equals("fed") && at + n == text.length();
      calls.add(new Call("feed", new Object[] {bytes, n}, isLast ? due(due) : null));
    }
    if (how.equals("text")) {
      calls.add(new Call("text", new Object[0], due(due)));
    }
  }

  private static Object[] arguments(String row) {
    if (row.isEmpty()) {
      return new Object[0];
    }
    String[] words = row.split(", ");
    Object[] args = new Object[words.length];
    for (int i = 0; i < words.length; i++) {
      boolean isFlag = words[i].equals("true") || words[i].equals("false");
      args[i] = isFlag ? (Object) words[i].equals("true") : (Object) (int) value(words[i]);
    }
    return args;
  }

  private static Long due(String word) {
    return word == null ? null : (Long) value(word);
  }

  private static long value(String word) {
    if (FINDINGS.contains(word)) {
      return Due.BEYOND - FINDINGS.indexOf(word);
    }
    if (word.startsWith("{")) {
      long bits = 0;
      for (String member : word.substring(1, word.length() - 1).split(", ")) {
        bits |= member.isEmpty() ? 0 : 1L << Integer.parseInt(member);
      }
      return bits;
    }
    return switch (word) {
      case "MIN" -> Integer.MIN_VALUE;
      case "MAX" -> Integer.MAX_VALUE;
      case "ALL" -> Long.parseLong(ALL);
      default -> Long.parseLong(word);
    };
  }

  private void run() {
    StonePost post = new StonePost();
    for (int i = 0; i < calls.size(); i++) {
      Call call = calls.get(i);
      long answer = answer(post, call);
      String told = name + ": call " + i + ", " + call;
      if (call.due() == null) {
        Due.isTrue(told + " answered the finding " + answer, !call.isFinding(answer));
      } else {
        Due.is(told, answer, call.due());
      }
      boolean isFault = call.name().equals("text") && answer < 0;
      if (isFault || call.isFinding(answer) || QUESTIONS.contains(call.name())) {
        checkUnchanged(i, call.isFinding(answer) ? finding(answer) : -1, told);
      }
    }
    Due.isTrue(name + " has at most 512 calls", calls.size() <= CALLS_MOST);
  }

  private long answer(StonePost post, Call call) {
    try {
      return ((Number) FACE.get(call.name()).invoke(post, call.args())).longValue();
    } catch (InvocationTargetException thrown) {
      Due.isTrue(name + ": " + call + " threw " + thrown.getCause(), false);
      return Long.MIN_VALUE;
    } catch (IllegalAccessException | IllegalArgumentException wrong) {
      Due.isTrue(name + ": " + call + " can't be called: " + wrong, false);
      return Long.MIN_VALUE;
    }
  }

  private StonePost after(int n) {
    StonePost post = new StonePost();
    for (int i = 0; i < n; i++) {
      answer(post, calls.get(i));
    }
    return post;
  }

  private void checkUnchanged(int at, int finding, String told) {
    StonePost with = after(at + 1);
    StonePost without = after(at);
    if (calls.get(at).name().equals("text")) {
      without.wipe();
    }
    for (int which = -1; which <= 6; which++) {
      int more = finding >= 0 && (which == -1 || which == finding) ? 1 : 0;
      Due.is(told + ", then status(" + which + ")", with.status(which), without.status(which) + more);
    }
    List<Long> whole = Whole.of(with);
    Due.isTrue(told + " changed something", whole.equals(Whole.of(without)));
    Due.isTrue(told + " is looked at in at most 512 calls", at + 9 + whole.size() <= CALLS_MOST);
  }
}
