import java.util.ArrayList;
import java.util.List;
import java.util.Random;

/** Runs of calls by chance (from fixed seeds) on an object and on the model: each answer must be the same. */
public final class ModelTest {
  private static final int[] ODD = {-1, -2, 7, 100, Integer.MAX_VALUE, Integer.MIN_VALUE};
  private final Random chance;
  private final OneWaySpell x = new OneWaySpell();
  private final Model m = new Model();
  private final List<String> told = new ArrayList<>();
  /** Every third run changes its table often and has long groups, so that marks pile up. */
  private final boolean restless;
  private int calls = 0;
  private int unknown = 0;

  private ModelTest(long seed) {
    chance = new Random(seed);
    restless = seed % 3 == 0;
  }

  public static void main(String[] args) {
    int runs = args.length > 1 ? Integer.parseInt(args[1]) : 500;
    long first = args.length > 2 ? Long.parseLong(args[2]) : 1;
    int wrong = 0;
    long unknown = 0;
    long calls = 0;
    for (long seed = first; seed < first + runs && wrong < 10; seed++) {
      ModelTest t = new ModelTest(seed);
      String difference = t.run();
      unknown += t.unknown;
      calls += t.calls;
      if (difference != null) {
        wrong++;
        System.out.println("seed " + seed + ": " + difference);
      }
    }
    System.out.println(calls + " calls, of which " + unknown + " were too dear to check; " + wrong + " runs differ");
    if (wrong != 0 || calls < 1000) {
      System.exit(1);
    }
  }

  private String run() {
    String difference = null;
    while (calls < 300 && difference == null) {
      int what = chance.nextInt(100);
      difference = what < 2 || m.groupCount() == 0 && what < 30 ? newTable()
          : what < (restless ? 50 : 12) ? change() : ask();
    }
    return difference;
  }

  private String compare(String call, long got, long want) {
    calls++;
    told.add(call + " -> " + got);
    if (want == Model.UNKNOWN) {
      unknown++;
      m.setWord(Tapes.theWord(x));
      return null;
    }
    if (got != want || !Tapes.theWord(x).equals(m.theWord())) {
      return call + " answered " + got + " (word " + Tapes.theWord(x) + "), due is " + want + " (word " + m.theWord()
          + "); " + m + "; calls " + told;
    }
    return null;
  }

  private String put(String text) {
    x.end(0);
    m.end(0);
    String difference = null;
    for (int at = 0; at < text.length() && difference == null; at += 20) {
      int[] n = new int[5];
      for (int i = 0; i < 20; i++) {
        int c = at + i < text.length() ? text.charAt(at + i) : ' ';
        n[i / 4] = n[i / 4] << 8 | c;
      }
      difference = compare("feed " + text, x.feed(n[0], n[1], n[2], n[3], n[4]), m.feed(n));
    }
    return difference != null ? difference : compare("end", x.end(text.length()), m.end(text.length()));
  }

  private String row(int letters, int longest) {
    StringBuilder b = new StringBuilder();
    int most = chance.nextInt(longest + 2);
    int n = 1 + (restless ? Math.min(5, Math.max(chance.nextInt(longest), most)) : Math.min(chance.nextInt(longest), most));
    for (int i = 0; i < n; i++) {
      b.append((char) ('a' + chance.nextInt(letters)));
    }
    return b.toString();
  }

  private String newTable() {
    int letters = 1 + chance.nextInt(4);
    int longest = 1 + chance.nextInt(6);
    int lines = 1 + chance.nextInt(4);
    boolean faulty = chance.nextInt(4) == 0;
    List<String> used = new ArrayList<>();
    StringBuilder text = new StringBuilder();
    for (int i = 0; i < lines; i++) {
      StringBuilder line = new StringBuilder();
      int groups = 1 + chance.nextInt(5);
      for (int j = 0; j < groups; j++) {
        String row = row(letters, longest);
        if (!used.contains(row) && used.size() < 14 || faulty) {
          used.add(row);
          line.append(line.length() == 0 ? "" : blank() + "|" + blank()).append(row);
        }
      }
      if (line.length() > 0) {
        text.append("sound ").append(faulty ? row(3, 3) : "" + (char) ('a' + i)).append(blank()).append('=');
        text.append(blank()).append(line).append(blank()).append(';').append(blank());
      }
    }
    if (faulty) {
      spoil(text);
    }
    if (text.length() > 600) {
      text.setLength(600);
    }
    String difference = put(text.toString());
    return difference != null ? difference : compare("table of " + text, x.table(), m.table());
  }

  private String blank() {
    int n = chance.nextInt(5);
    return n == 0 ? " " : n == 1 ? "\n" : "";
  }

  private void spoil(StringBuilder text) {
    String signs = "=|; \nabcz{A$\u0000\u00ff";
    int times = 1 + chance.nextInt(2);
    for (int i = 0; i < times; i++) {
      int at = chance.nextInt(text.length() + 1);
      char c = signs.charAt(chance.nextInt(signs.length()));
      int how = chance.nextInt(3);
      if (how == 0) {
        text.insert(at, c);
      } else if (at < text.length() && how == 1) {
        text.setCharAt(at, c);
      } else {
        text.setLength(at);
      }
    }
  }

  private int number(int bound) {
    return chance.nextInt(12) == 0 ? ODD[chance.nextInt(ODD.length)] : chance.nextInt(bound + 1);
  }

  private String change() {
    switch (chance.nextInt(8)) {
      case 0:
      case 7:
        int way = number(2);
        return compare("mend " + way, x.mend(way), m.mend(way));
      case 1:
      case 2:
        return compare("undo", x.undo() ? 1 : 0, m.undo());
      default:
        int k = number(m.groupCount());
        boolean is = chance.nextInt(5) > 1;
        return compare("out " + k + " " + is, x.out(k, is) ? 1 : 0, m.out(k, is));
    }
  }

  private String ask() {
    int a = number(3);
    int b = number(4);
    int c = number(4);
    switch (chance.nextInt(31)) {
      case 0: return compare("fault " + a, x.fault(a), m.fault(a));
      case 1: return askGroup();
      case 2: return askAbout();
      case 3: return askMeets();
      case 4: return compare("parts", x.parts(), m.parts());
      case 5: return compare("tails " + a, x.tails(a), m.tails(a));
      case 6: return compare("tail " + a + " " + b + " " + c, x.tail(a, b, c), m.tail(a, b, c));
      case 7: return compare("doubt", x.doubt(), m.doubt());
      case 8: return compare("witness", x.witness(), m.witness());
      case 9: return compare("look", x.look(), m.look());
      case 10: return compare("share " + a, x.share(a), m.share(a));
      case 11: return askWord();
      case 12: return compare("letter " + b, x.letter(b), m.letter(b));
      case 13: return compare("readings", x.readings(), m.readings());
      case 14: return compare("reading " + a + " " + b, x.reading(a, b), m.reading(a, b));
      case 15: return compare("sounds", x.sounds(), m.sounds());
      case 16: return compare("reads " + a, x.reads(a), m.reads(a));
      case 17: return compare("took " + a + " " + b, x.took(a, b), m.took(a, b));
      case 18: return compare("fool " + a, x.fool(a), m.fool(a));
      case 19: return compare("goes", x.goes(), m.goes());
      case 20: return askSpell();
      case 21: return askDrawn();
      case 22: return askWords();
      case 23: return askNth();
      case 24: return compare("place", x.place(), m.place());
      case 25: return compare("borders " + b, x.borders(b), m.borders(b));
      case 26: return compare("border " + b + " " + a + " " + c, x.border(b, a, c), m.border(b, a, c));
      case 27: return compare("cure " + a, x.cure(a), m.cure(a));
      case 28: return compare("tails -1", x.tails(-1), m.tails(-1));
      case 29: return askWord();
      default: return askDrawn();
    }
  }

  private String askGroup() {
    int k = number(m.groupCount());
    int what = chance.nextBoolean() ? number(4) : 10 + chance.nextInt(8);
    return compare("group " + k + " " + what, x.group(k, what), m.group(k, what));
  }

  private String askAbout() {
    int what = number(9);
    return compare("about " + what, x.about(what), m.about(what));
  }

  private String askMeets() {
    int a = number(m.groupCount());
    int b = number(m.groupCount());
    return compare("meets " + a + " " + b, x.meets(a, b), m.meets(a, b));
  }

  private String askWord() {
    StringBuilder b = new StringBuilder();
    int n = chance.nextInt(chance.nextInt(10) == 0 ? 43 : 11);
    int letters = 1 + chance.nextInt(4);
    for (int i = 0; i < n; i++) {
      b.append(chance.nextInt(25) == 0 ? '{' : (char) ('a' + chance.nextInt(letters)));
    }
    if (chance.nextInt(20) == 0) {
      b.append((char) chance.nextInt(256));
    }
    String difference = put(b.toString());
    return difference != null ? difference : compare("word " + b, x.word(), m.word());
  }

  private String askSpell() {
    int[] s = new int[4];
    int n = chance.nextInt(5);
    for (int i = 0; i < 4; i++) {
      s[i] = i < n || chance.nextInt(20) == 0 ? number(Math.max(0, m.soundCount() - 1)) : -1;
    }
    return compare("spell " + s[0] + " " + s[1] + " " + s[2] + " " + s[3], x.spell(s[0], s[1], s[2], s[3]), m.spell(s));
  }

  private String askDrawn() {
    int seed = chance.nextInt();
    int n = number(5);
    return compare("drawn " + seed + " " + n, x.drawn(seed, n), m.drawn(seed, n));
  }

  private String askWords() {
    int n = number(11);
    int what = number(2);
    return compare("words " + n + " " + what, x.words(n, what), m.words(n, what));
  }

  private String askNth() {
    int n = number(11);
    long most = x.words(n, 0);
    long k = chance.nextInt(6) == 0 ? most + chance.nextInt(3) - 1 : most > 0 ? (long) (chance.nextDouble() * most) : 0;
    if (chance.nextInt(20) == 0) {
      k = chance.nextLong();
    }
    return compare("nth " + n + " " + k, x.nth(n, k) ? 1 : 0, m.nth(n, k));
  }
}
