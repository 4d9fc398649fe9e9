import java.util.ArrayList;
import java.util.List;
import java.util.Random;

/**
 * Tables of which some groups are marked, one by one, behind or ahead, and are in doubt then.
 * Two rows that repeat one root are in doubt; CURE marks the one told first, so pairs of these let any one be marked.
 */
public final class MarkTest {
  private static final int RUNS = 300;
  private static int wrong = 0;
  private static int doubtful = 0;

  public static void main(String[] args) {
    for (int run = 0; run < RUNS && wrong < 10; run++) {
      new MarkTest(run).run();
    }
    System.out.println(doubtful + " marked tables in doubt; " + wrong + " answers are not as due");
    if (wrong != 0 || doubtful < 50) {
      System.exit(1);
    }
  }

  private final Random chance;
  private final OneWaySpell x = new OneWaySpell();
  private final Model m = new Model();
  private final List<String> told = new ArrayList<>();

  private MarkTest(int seed) {
    chance = new Random(seed);
  }

  private void due(String what, long got, long want) {
    if (want == Model.UNKNOWN) {
      m.setWord(Tapes.theWord(x));
    } else if (got != want || !m.theWord().equals(Tapes.theWord(x))) {
      wrong++;
      System.out.println(what + " answered " + got + " (" + Tapes.theWord(x) + "), due is " + want + "; " + m);
    }
  }

  private void run() {
    List<String> helpers = new ArrayList<>();
    int letters = 1 + chance.nextInt(2);
    for (int i = 0; i < 40 && told.size() < 7; i++) {
      StringBuilder root = new StringBuilder();
      int n = 1 + chance.nextInt(3);
      for (int j = 0; j < n; j++) {
        root.append((char) ('a' + chance.nextInt(letters)));
      }
      int most = 6 / n;
      int times = 1 + chance.nextInt(chance.nextInt(3) == 0 ? most : 1);
      int others = 1 + (times + chance.nextInt(most - 1)) % most;
      String row = root.toString().repeat(times);
      String helper = root.toString().repeat(others);
      if (!told.contains(row) && !told.contains(helper) && !helpers.contains(row) && !helpers.contains(helper)
          && !row.equals(helper)) {
        told.add(row);
        helpers.add(helper);
      }
    }
    int count = told.size();
    told.addAll(helpers);
    String text = "sound a=" + String.join("|", told.subList(0, count)) + ";sound b=" + String.join("|", helpers) + ";";
    Tapes.table(x, text);
    for (int at = 0; at < text.length(); at += 20) {
      int[] n = new int[5];
      for (int i = 0; i < 20; i++) {
        n[i / 4] = n[i / 4] << 8 | (at + i < text.length() ? text.charAt(at + i) : ' ');
      }
      m.feed(n);
    }
    m.end(text.length());
    m.table();
    for (int k = 0; k < count; k++) {
      if (chance.nextInt(3) > 0) {
        mark(k, k + count);
      }
    }
    onlyIn(k -> k < count);
    ask();
    onlyIn(k -> k < count + chance.nextInt(2) && chance.nextInt(4) > 0);
    ask();
    due("undo", x.undo() ? 1 : 0, m.undo());
    ask();
  }

  private void mark(int k, int helper) {
    onlyIn(i -> i == k || i == helper);
    int way = chance.nextInt(2);
    due("cure " + way, x.cure(way), 1L << k);
    due("mend " + way, x.mend(way), m.mend(way));
    due("the mark", x.group(k, way == 0 ? 9 + x.group(k, 1) : 10), 123);
  }

  private void onlyIn(java.util.function.IntPredicate is) {
    for (int k = 0; k < told.size(); k++) {
      boolean in = is.test(k);
      due("out", x.out(k, !in) ? 1 : 0, m.out(k, !in));
    }
  }

  private void ask() {
    if (m.parts() == 0) {
      doubtful++;
    }
    for (int what = 0; what < 10; what++) {
      due("about " + what, x.about(what), m.about(what));
    }
    for (int k = 0; k < told.size(); k++) {
      for (int what = 0; what < 18; what++) {
        due("group " + k + " " + what, x.group(k, what), m.group(k, what));
      }
      due("meets", x.meets(k, told.size() / 2), m.meets(k, told.size() / 2));
    }
    due("parts", x.parts(), m.parts());
    for (int r = -1; r < 5; r++) {
      due("tails " + r, x.tails(r), m.tails(r));
      due("tail " + r, x.tail(r, 1, 0), m.tail(r, 1, 0));
    }
    due("doubt", x.doubt(), m.doubt());
    due("witness", x.witness(), m.witness());
    due("readings", x.readings(), m.readings());
    due("look", x.look(), m.look());
    due("share", x.share(0), m.share(0));
    due("share", x.share(1), m.share(1));
    for (int kind = 0; kind < 3; kind++) {
      due("reads " + kind, x.reads(kind), m.reads(kind));
      due("fool " + kind, x.fool(kind), m.fool(kind));
      due("goes", x.goes(), m.goes());
      due("cure " + kind, x.cure(kind), m.cure(kind));
      due("words " + kind, x.words(5 + kind, kind), m.words(5 + kind, kind));
      due("spell", x.spell(0, kind % 2, 0, -1), m.spell(0, kind % 2, 0, -1));
    }
    due("nth", x.nth(6, 3) ? 1 : 0, m.nth(6, 3));
    due("place", x.place(), m.place());
    for (int n = 1; n < 5; n++) {
      due("borders " + n, x.borders(n), m.borders(n));
      due("border " + n, x.border(n, 1, n - 1), m.border(n, 1, n - 1));
    }
  }
}
