import java.math.BigInteger;
import java.util.ArrayList;
import java.util.List;
import java.util.regex.Matcher;
import java.util.regex.Pattern;

/** The model's reader of texts: tokens by a pattern, then item by item into a model. */
final class ModelText {
  record Token(String word, int place) {
  }

  /** Told where a token can't stand. */
  private static final class Fault extends RuntimeException {
    private static final long serialVersionUID = 1;
    final int place;

    Fault(int place) {
      this.place = place;
    }
  }

  private static final List<String> STUFFS = List.of("grass", "brook", "hedge", "road");
  private static final List<String> KINDS = List.of("thrower", "strong", "shaky", "giant", "blind", "old", "lad");

  private final List<Token> tokens;
  private final int length;
  private int at = 0;

  ModelText(List<Token> tokens, int length) {
    this.tokens = tokens;
    this.length = length;
  }

  static List<Token> tokens(List<Integer> bytes) {
    StringBuilder b = new StringBuilder();
    for (int v : bytes) {
      b.append((char) v);
    }
    Matcher m = Pattern.compile("[a-z]+|[0-9]+|[^ ]", Pattern.DOTALL).matcher(b);
    List<Token> tokens = new ArrayList<>();
    while (m.find()) {
      tokens.add(new Token(m.group(), m.start()));
    }
    return tokens;
  }

  int read(Model m) {
    try {
      int items = 0;
      do {
        item(m);
        items++;
      } while (skip(";"));
      if (at < tokens.size()) {
        throw new Fault(place());
      }
      return items;
    } catch (Fault fault) {
      return -1 - fault.place;
    }
  }

  private int place() {
    return at < tokens.size() ? tokens.get(at).place() : length;
  }

  private boolean skip(String word) {
    boolean there = at < tokens.size() && tokens.get(at).word().equals(word);
    at += there ? 1 : 0;
    return there;
  }

  private int number(int least, int most) {
    String word = at < tokens.size() ? tokens.get(at).word() : "";
    if (!word.matches("[0-9]+")) {
      throw new Fault(place());
    }
    BigInteger v = new BigInteger(word);
    if (v.compareTo(BigInteger.valueOf(least)) < 0 || v.compareTo(BigInteger.valueOf(most)) > 0) {
      throw new Fault(place());
    }
    at++;
    return v.intValue();
  }

  private void item(Model m) {
    String word = at < tokens.size() ? tokens.get(at).word() : "";
    int begin = place();
    at++;
    if (STUFFS.contains(word)) {
      int first = number(0, 23);
      int last = skip("to") ? number(first, 23) : first;
      for (int c = first; c <= last; c++) {
        m.stuff(c, STUFFS.indexOf(word));
      }
    } else if (word.equals("home")) {
      m.rule(0, number(0, 23));
    } else if (word.equals("fetch")) {
      m.rule(1, number(0, 9));
    } else if (word.equals("letter") && m.lettersNow() < 12) {
      m.letter(number(0, 23));
    } else if (KINDS.contains(word) && m.throwersNow() < 10) {
      thrower(m, KINDS.indexOf(word));
    } else {
      throw new Fault(begin);
    }
  }

  private void thrower(Model m, int kind) {
    if (!skip("at")) {
      throw new Fault(place());
    }
    int place = place();
    int cell = number(0, 23);
    if (!m.isFreeCell(cell)) {
      throw new Fault(place);
    }
    int t = m.thrower(kind, cell);
    if (skip("near")) {
      m.change(t, 2, number(1, 9));
    }
    if (skip("far")) {
      m.change(t, 3, number(1, 12));
    }
    if (skip("odds")) {
      m.change(t, 5, number(0, 12));
    }
    if (skip("west")) {
      m.change(t, 4, 0);
    }
  }
}
