import java.util.ArrayList;
import java.util.List;

/**
 * All that an object is, but for status(), read by calls alone: of two that are alike every answer is the same.
 * The object is spent by that. Each call adds one answer.
 */
final class Whole {
  private final StonePost post;
  private final List<Long> told = new ArrayList<>();

  private Whole(StonePost post) {
    this.post = post;
  }

  static List<Long> of(StonePost post) {
    Whole whole = new Whole(post);
    whole.readLand();
    for (int s = 0; s < 4; s++) {
      whole.readSheet(s);
    }
    if (whole.tell(post.text()) > 0) {
      whole.readLand();
    }
    if (whole.tell(post.undo()) >= 0) {
      whole.readLand();
    }
    return whole.told;
  }

  private int tell(int answer) {
    told.add((long) answer);
    return answer;
  }

  private void readLand() {
    for (int what = 0; what <= 7; what++) {
      tell(post.count(what));
    }
    int throwers = tell(post.count(1));
    for (int t = 0; t < throwers; t++) {
      for (int what = 0; what <= 8; what++) {
        tell(post.of(t, what));
      }
    }
    int letters = tell(post.count(2));
    for (int l = 0; l < letters; l++) {
      tell(post.where(l));
    }
    for (int spot = 0; spot <= 9; spot++) {
      tell(post.as(spot, 0));
    }
    tell(post.rule(0, 0));
    tell(post.rule(1, 0));
    readStuffs(24);
  }

  private void readStuffs(int n) {
    for (int cell = 0; cell < n; cell++) {
      tell(post.stuff(cell, 0));
    }
  }

  /** Numbers of 0 to 3 are told by load(); of others that they are others; at last its bits. */
  private void readSheet(int s) {
    int n = readLength(s);
    boolean hasNumbers = n > 0;
    while (n > 0) {
      int came = tell(post.load(s));
      readStuffs(Math.min(came, n));
      int past = Math.min(came < 24 ? came + 1 : came, n);
      tell(post.copy(s, past, s, 0, n - past));
      n -= past;
    }
    if (hasNumbers) {
      for (int v : new int[] {256, 65536}) {
        tell(post.write(s, 0, v));
        tell(Math.min(1, post.load(s)));
      }
    }
  }

  /** How many numbers a sheet has, as it can be copied onto itself; -1: it is missing. */
  private int readLength(int s) {
    if (tell(post.copy(s, 0, s, 0, 0)) < 0) {
      return -1;
    }
    int least = 0;
    int most = 40;
    while (least < most) {
      int n = (least + most + 1) / 2;
      if (tell(post.copy(s, 0, s, 0, n)) == n) {
        least = n;
      } else {
        most = n - 1;
      }
    }
    return least;
  }
}
