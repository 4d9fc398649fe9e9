import java.math.BigInteger;
import java.util.ArrayDeque;
import java.util.ArrayList;
import java.util.Collections;
import java.util.Comparator;
import java.util.Deque;
import java.util.HashMap;
import java.util.HashSet;
import java.util.List;
import java.util.Map;
import java.util.PriorityQueue;
import java.util.Set;
import java.util.TreeSet;

/**
 * The document in its plainest words, by texts and by trying all: what OneWaySpell is held against.
 * UNKNOWN says that trying all would take too long.
 */
final class Model {
  static final long UNKNOWN = Long.MIN_VALUE + 77;
  private static final Comparator<String> SHORT_FIRST =
      Comparator.comparingInt(String::length).thenComparing(Comparator.naturalOrder());

  private StringBuilder tape = new StringBuilder();
  private List<String> groups = new ArrayList<>();
  private List<Integer> soundOf = new ArrayList<>();
  private int soundCount = 0;
  private Set<Integer> out = new TreeSet<>();
  private String word = "";
  private int fault = 0;
  private int faultPlace = -1;
  private final Deque<Object[]> acts = new ArrayDeque<>();
  private final Map<String, Object> kept = new HashMap<>();

  // ---- the tape and the table

  long feed(int... numbers) {
    if (tape.length() + 20 > 600) {
      return -1;
    }
    for (int n : numbers) {
      for (int i = 3; i >= 0; i--) {
        tape.append((char) (n >> 8 * i & 255));
      }
    }
    return tape.length();
  }

  long end(int n) {
    if (n < 0 || n > tape.length()) {
      return -1;
    }
    tape.setLength(n);
    return n;
  }

  long table() {
    String text = tape.toString();
    tape.setLength(0);
    List<String> told = new ArrayList<>();
    List<Integer> toldSounds = new ArrayList<>();
    List<String> names = new ArrayList<>();
    fault = 0;
    faultPlace = -1;
    String expected = "sound";
    int at = 0;
    while (true) {
      while (at < text.length() && (text.charAt(at) == 32 || text.charAt(at) == 10)) {
        at++;
      }
      if (at == text.length()) {
        if (!expected.equals("sound")) {
          return faulty(2, at);
        }
        break;
      }
      int stop = at;
      while (stop < text.length() && text.charAt(stop) >= 'a' && text.charAt(stop) <= 'z') {
        stop++;
      }
      if (stop == at && "=|;".indexOf(text.charAt(at)) < 0) {
        return faulty(1, at);
      }
      boolean isRow = stop > at;
      String token = isRow ? text.substring(at, stop) : text.substring(at, at + 1);
      switch (expected) {
        case "sound":
          if (!token.equals("sound")) {
            return faulty(2, at);
          }
          if (names.size() == 10) {
            return faulty(4, at);
          }
          expected = "name";
          break;
        case "name":
          if (!isRow || token.equals("sound") || token.length() > 6) {
            return faulty(2, at);
          }
          if (names.contains(token)) {
            return faulty(3, at);
          }
          names.add(token);
          expected = "=";
          break;
        case "=":
          if (!token.equals("=")) {
            return faulty(2, at);
          }
          expected = "group";
          break;
        case "group":
          if (!isRow || token.length() > 6) {
            return faulty(2, at);
          }
          if (told.contains(token)) {
            return faulty(3, at);
          }
          if (told.size() == 14) {
            return faulty(4, at);
          }
          told.add(token);
          toldSounds.add(names.size() - 1);
          expected = "more";
          break;
        default:
          if (token.equals("|")) {
            expected = "group";
          } else if (token.equals(";")) {
            expected = "sound";
          } else {
            return faulty(2, at);
          }
      }
      at += token.length();
    }
    groups = told;
    soundOf = toldSounds;
    soundCount = names.size();
    out.clear();
    word = "";
    acts.clear();
    kept.clear();
    return groups.size();
  }

  private long faulty(int kind, int at) {
    fault = kind;
    faultPlace = at;
    return -1;
  }

  long fault(int what) {
    return what == 0 ? fault : what == 1 ? faultPlace : -1;
  }

  long group(int k, int what) {
    if (k < 0 || k >= groups.size()) {
      return -1;
    }
    if (what == 0) {
      return soundOf.get(k);
    }
    if (what == 1) {
      return groups.get(k).length();
    }
    if (what == 2) {
      return out.contains(k) ? 1 : 0;
    }
    return what < 10 ? -1 : letterOf(groups.get(k), what - 10);
  }

  private static long letterOf(String row, int i) {
    return i < 0 || i >= row.length() ? -1 : row.charAt(i);
  }

  long about(int what) {
    switch (what) {
      case 0: return soundCount;
      case 1: return groups.size();
      case 2:
        long bits = 0;
        for (int k : in()) {
          bits += 1L << k;
        }
        return bits;
      case 3: return base();
      case 4: return word.length();
      case 5: return acts.size();
      case 6: return tape.length();
      case 7:
        for (String a : inRows()) {
          for (String b : inRows()) {
            if (!a.equals(b) && b.startsWith(a)) {
              return 0;
            }
          }
        }
        return 1;
      case 8:
        for (String a : inRows()) {
          for (String b : inRows()) {
            if (!a.equals(b) && b.endsWith(a)) {
              return 0;
            }
          }
        }
        return 1;
      default: return -1;
    }
  }

  private List<Integer> in() {
    List<Integer> list = new ArrayList<>();
    for (int k = 0; k < groups.size(); k++) {
      if (!out.contains(k)) {
        list.add(k);
      }
    }
    return list;
  }

  private List<String> inRows() {
    List<String> list = new ArrayList<>();
    for (int k : in()) {
      list.add(groups.get(k));
    }
    return list;
  }

  private TreeSet<Character> alphabet() {
    TreeSet<Character> letters = new TreeSet<>();
    for (String g : inRows()) {
      for (char c : g.toCharArray()) {
        letters.add(c);
      }
    }
    return letters;
  }

  private int base() {
    return Math.max(2, alphabet().size());
  }

  long meets(int a, int b) {
    if (a < 0 || b < 0 || a >= groups.size() || b >= groups.size()) {
      return -1;
    }
    String x = groups.get(a);
    String y = groups.get(b);
    long most = 0;
    for (int n = 1; n < x.length() && n < y.length(); n++) {
      if (x.endsWith(y.substring(0, n))) {
        most = n;
      }
    }
    return most;
  }

  // ---- whether it parts

  private static List<TreeSet<String>> roundsOf(List<String> rows) {
    List<TreeSet<String>> rounds = new ArrayList<>();
    Set<String> all = new HashSet<>();
    TreeSet<String> round = new TreeSet<>();
    for (String a : rows) {
      for (String b : rows) {
        if (!a.equals(b) && b.startsWith(a)) {
          round.add(b.substring(a.length()));
        }
      }
    }
    while (!round.isEmpty()) {
      rounds.add(round);
      all.addAll(round);
      TreeSet<String> next = new TreeSet<>();
      for (String t : round) {
        for (String g : rows) {
          String rest = g.startsWith(t) ? g.substring(t.length()) : t.startsWith(g) ? t.substring(g.length()) : "";
          if (!rest.isEmpty() && !all.contains(rest)) {
            next.add(rest);
          }
        }
      }
      round = next;
    }
    return rounds;
  }

  private static int doubtOf(List<String> rows) {
    List<TreeSet<String>> rounds = roundsOf(rows);
    for (int r = 0; r < rounds.size(); r++) {
      if (!Collections.disjoint(rounds.get(r), rows)) {
        return r + 1;
      }
    }
    return -1;
  }

  long parts() {
    return doubtOf(inRows()) < 0 ? 1 : 0;
  }

  long tails(int round) {
    List<TreeSet<String>> rounds = roundsOf(inRows());
    return round == -1 ? rounds.size() : round < 1 || round > rounds.size() ? 0 : rounds.get(round - 1).size();
  }

  long tail(int round, int k, int i) {
    List<TreeSet<String>> rounds = roundsOf(inRows());
    if (round < 1 || round > rounds.size() || k < 0 || k >= rounds.get(round - 1).size()) {
      return -1;
    }
    return letterOf(new ArrayList<>(rounds.get(round - 1)).get(k), i);
  }

  long doubt() {
    return doubtOf(inRows());
  }

  long witness() {
    String w = doubtfulWord();
    if (w == null) {
      return -1;
    }
    word = w;
    return w.length();
  }

  /** Of two rows the longer one's word, by what it has more: the shortest such words come first. */
  private String doubtfulWord() {
    PriorityQueue<String[]> open = new PriorityQueue<>((x, y) -> SHORT_FIRST.compare(x[0], y[0]));
    List<String> rows = inRows();
    for (String a : rows) {
      for (String b : rows) {
        if (!a.equals(b) && b.startsWith(a)) {
          open.add(new String[] {b, b.substring(a.length())});
        }
      }
    }
    Set<String> seen = new HashSet<>();
    while (!open.isEmpty()) {
      String[] top = open.poll();
      String tail = top[1];
      if (tail.isEmpty()) {
        return top[0];
      }
      if (!seen.add(tail)) {
        continue;
      }
      for (String g : rows) {
        if (tail.startsWith(g)) {
          open.add(new String[] {top[0], tail.substring(g.length())});
        } else if (g.startsWith(tail)) {
          open.add(new String[] {top[0] + g.substring(tail.length()), g.substring(tail.length())});
        }
      }
    }
    return null;
  }

  long look() {
    List<String> rows = inRows();
    if (doubtOf(rows) >= 0) {
      return -1;
    }
    long best = 0;
    for (String a : rows) {
      for (String b : rows) {
        if (!a.equals(b)) {
          long n = ahead(b, a, rows, new HashSet<>(), new HashMap<>());
          if (n < 0) {
            return -1;
          }
          best = Math.max(best, n);
        }
      }
    }
    return best;
  }

  /** How many letters tail, and what may come behind it, and g, and what may, have in common at most; -1 without bound. */
  private static long ahead(String tail, String g, List<String> rows, Set<String> open, Map<String, Long> known) {
    int n = 0;
    while (n < tail.length() && n < g.length() && tail.charAt(n) == g.charAt(n)) {
      n++;
    }
    if (n < tail.length() && n < g.length()) {
      return n;
    }
    String rest = n < tail.length() ? tail.substring(n) : g.substring(n);
    if (rest.isEmpty()) {
      throw new IllegalStateException("it parts");
    }
    if (known.containsKey(rest)) {
      long m = known.get(rest);
      return m < 0 ? -1 : n + m;
    }
    if (!open.add(rest)) {
      return -1;
    }
    long best = 0;
    for (String h : rows) {
      long m = ahead(rest, h, rows, open, known);
      if (m < 0) {
        return -1;
      }
      best = Math.max(best, m);
    }
    open.remove(rest);
    known.put(rest, best);
    return n + best;
  }

  long share(int what) {
    if (what != 0 && what != 1) {
      return -1;
    }
    BigInteger k = BigInteger.valueOf(base());
    BigInteger upper = BigInteger.ZERO;
    BigInteger lower = BigInteger.ONE;
    for (String g : inRows()) {
      BigInteger add = k.pow(g.length());
      upper = upper.multiply(add).add(lower);
      lower = lower.multiply(add);
    }
    BigInteger common = upper.gcd(lower);
    return (what == 0 ? upper : lower).divide(common).longValueExact();
  }

  // ---- THE WORD

  long word() {
    String text = tape.toString();
    tape.setLength(0);
    if (text.length() > 40) {
      return -1;
    }
    for (char c : text.toCharArray()) {
      if (!(c >= 'a' && c <= 'z' || c == 123)) {
        return -1;
      }
    }
    word = text;
    return text.length();
  }

  long letter(int i) {
    return letterOf(word, i);
  }

  private static BigInteger count(String w, List<String> rows) {
    BigInteger[] ways = new BigInteger[w.length() + 1];
    ways[0] = BigInteger.ONE;
    for (int n = 1; n <= w.length(); n++) {
      ways[n] = BigInteger.ZERO;
      String beginning = w.substring(0, n);
      for (String g : rows) {
        if (beginning.endsWith(g)) {
          ways[n] = ways[n].add(ways[n - g.length()]);
        }
      }
    }
    return ways[w.length()];
  }

  long readings() {
    BigInteger n = count(word, inRows());
    return n.bitLength() > 62 ? UNKNOWN : n.longValueExact();
  }

  /** The i-th reading, by trying groups in their order and counting what the rest can be. */
  private List<Integer> readingOf(long i) {
    if (i < 0 || count(word, inRows()).compareTo(BigInteger.valueOf(i)) <= 0) {
      return null;
    }
    List<Integer> row = new ArrayList<>();
    BigInteger left = BigInteger.valueOf(i);
    String rest = word;
    while (!rest.isEmpty()) {
      for (int k : in()) {
        if (rest.startsWith(groups.get(k))) {
          String behind = rest.substring(groups.get(k).length());
          BigInteger n = count(behind, inRows());
          if (left.compareTo(n) < 0) {
            row.add(k);
            rest = behind;
            break;
          }
          left = left.subtract(n);
        }
      }
    }
    return row;
  }

  long reading(int i, int k) {
    List<Integer> row = readingOf(i);
    return row == null || k < 0 || k >= row.size() ? -1 : row.get(k);
  }

  long sounds() {
    Set<List<Integer>> rows = new HashSet<>();
    for (int i = 0; i < 2; i++) {
      List<Integer> row = readingOf(i);
      if (row != null) {
        List<Integer> tones = new ArrayList<>();
        for (int k : row) {
          tones.add(soundOf.get(k));
        }
        rows.add(tones);
      }
    }
    return rows.size();
  }

  /** What a reader takes; a last -1 says that it fails. */
  private List<Integer> taken(String w, int kind) {
    List<Integer> row = new ArrayList<>();
    String rest = w;
    while (!rest.isEmpty()) {
      int best = -1;
      for (int k : in()) {
        if (rest.startsWith(groups.get(k))) {
          int n = groups.get(k).length();
          if (best < 0 || kind == 0 && n > groups.get(best).length() || kind == 1 && n < groups.get(best).length()) {
            best = k;
          }
        }
      }
      row.add(best);
      if (best < 0) {
        return row;
      }
      rest = rest.substring(groups.get(best).length());
    }
    return row;
  }

  long reads(int kind) {
    if (kind < 0 || kind > 2) {
      return -2;
    }
    List<Integer> row = taken(word, kind);
    return row.contains(-1) ? -1 : row.size();
  }

  long took(int kind, int k) {
    if (kind < 0 || kind > 2) {
      return -1;
    }
    List<Integer> row = taken(word, kind);
    return k < 0 || k >= row.size() ? -1 : row.get(k);
  }

  /** Tries all rows of groups, by the length of what they make: it may be of 13 letters at most. */
  long fool(int kind) {
    if (kind < 0 || kind > 2) {
      return -2;
    }
    List<Map<String, List<List<Integer>>>> byLength = new ArrayList<>();
    Map<String, List<List<Integer>>> none = new HashMap<>();
    none.put("", List.of(List.of()));
    byLength.add(none);
    long rows = 0;
    for (int n = 1; n <= 14; n++) {
      Map<String, List<List<Integer>>> made = new HashMap<>();
      TreeSet<String> fooled = new TreeSet<>();
      for (int k : in()) {
        String g = groups.get(k);
        if (g.length() <= n) {
          for (Map.Entry<String, List<List<Integer>>> e : byLength.get(n - g.length()).entrySet()) {
            String w = e.getKey() + g;
            for (List<Integer> row : e.getValue()) {
              List<Integer> longer = new ArrayList<>(row);
              longer.add(k);
              made.computeIfAbsent(w, x -> new ArrayList<>()).add(longer);
              if (++rows > 60000) {
                return UNKNOWN;
              }
            }
          }
        }
      }
      for (Map.Entry<String, List<List<Integer>>> e : made.entrySet()) {
        for (List<Integer> row : e.getValue()) {
          if (!taken(e.getKey(), kind).equals(row)) {
            fooled.add(e.getKey());
          }
        }
      }
      if (!fooled.isEmpty()) {
        word = fooled.first();
        return n;
      }
      byLength.add(made);
    }
    return -1;
  }

  long goes() {
    List<String> rows = inRows();
    for (int n = word.length(); n > 0; n--) {
      if (canBegin(word.substring(0, n), rows, new HashMap<>())) {
        return n;
      }
    }
    return 0;
  }

  private static boolean canBegin(String w, List<String> rows, Map<String, Boolean> known) {
    if (w.isEmpty()) {
      return true;
    }
    Boolean before = known.get(w);
    if (before != null) {
      return before;
    }
    boolean can = false;
    for (String g : rows) {
      can = can || g.startsWith(w) || w.startsWith(g) && canBegin(w.substring(g.length()), rows, known);
    }
    known.put(w, can);
    return can;
  }

  long spell(int... asked) {
    int n = 0;
    while (n < 4 && asked[n] != -1) {
      n++;
    }
    for (int i = n; i < 4; i++) {
      if (asked[i] != -1) {
        return -1;
      }
    }
    for (int i = 0; i < n; i++) {
      if (asked[i] < 0 || asked[i] >= soundCount) {
        return -1;
      }
    }
    if (n == 0) {
      return -1;
    }
    List<String> made = List.of("");
    for (int i = 0; i < n; i++) {
      List<String> longer = new ArrayList<>();
      for (String w : made) {
        for (int k : in()) {
          if (soundOf.get(k) == asked[i]) {
            longer.add(w + groups.get(k));
          }
        }
      }
      made = longer;
    }
    if (made.size() > 3000) {
      return UNKNOWN;
    }
    String best = null;
    for (String w : made) {
      if ((best == null || w.length() < best.length()) && count(w, inRows()).equals(BigInteger.ONE)) {
        best = w;
      }
    }
    if (best == null) {
      return -1;
    }
    word = best;
    return best.length();
  }

  long drawn(int seed, int n) {
    List<String> rows = inRows();
    if (rows.isEmpty() || n < 1 || n > 5) {
      return -1;
    }
    StringBuilder b = new StringBuilder();
    for (int i = 0; i < n; i++) {
      seed = seed * 1103515245 + 12345;
      b.append(rows.get((seed >>> 16) % rows.size()));
    }
    word = b.toString();
    return word.length();
  }

  // ---- words of each length

  /** All words of n letters that have a reading, with how many; null if these are too many. */
  private List<Map<String, BigInteger>> wordsUpTo(int n) {
    List<String> rows = inRows();
    List<Map<String, BigInteger>> byLength = new ArrayList<>();
    byLength.add(Map.of("", BigInteger.ONE));
    long made = 0;
    for (int m = 1; m <= n; m++) {
      Map<String, BigInteger> now = new HashMap<>();
      for (String g : rows) {
        if (g.length() <= m) {
          for (Map.Entry<String, BigInteger> e : byLength.get(m - g.length()).entrySet()) {
            now.merge(e.getKey() + g, e.getValue(), BigInteger::add);
            if (++made > 30000) {
              return null;
            }
          }
        }
      }
      byLength.add(now);
    }
    return byLength;
  }

  @SuppressWarnings("unchecked")
  private Map<String, BigInteger> wordsOf(int n) {
    String key = "words " + n + inRows();
    if (!kept.containsKey(key)) {
      List<Map<String, BigInteger>> all = wordsUpTo(n);
      kept.put(key, all == null ? null : all.get(n));
    }
    return (Map<String, BigInteger>) kept.get(key);
  }

  long words(int n, int what) {
    if (n < 0 || n > 10 || what < 0 || what > 2) {
      return -1;
    }
    Map<String, BigInteger> all = wordsOf(n);
    if (all == null) {
      return UNKNOWN;
    }
    long once = all.values().stream().filter(BigInteger.ONE::equals).count();
    return what == 0 ? all.size() : what == 1 ? once : all.size() - once;
  }

  long nth(int n, long k) {
    if (n < 0 || n > 10 || k < 0) {
      return 0;
    }
    Map<String, BigInteger> all = wordsOf(n);
    if (all == null) {
      return UNKNOWN;
    }
    if (k >= all.size()) {
      return 0;
    }
    word = new ArrayList<>(new TreeSet<>(all.keySet())).get((int) k);
    return 1;
  }

  long place() {
    if (word.length() > 10 || count(word, inRows()).signum() == 0) {
      return -1;
    }
    Map<String, BigInteger> all = wordsOf(word.length());
    return all == null ? UNKNOWN : new TreeSet<>(all.keySet()).headSet(word).size();
  }

  // ---- BORDERS

  /** Where a reading can stand behind a row that begins inside, or ahead of, some group: 1 in a group, 2 at its end. */
  private static int endings(String row, List<String> rows) {
    int ways = 0;
    for (String g : rows) {
      for (int i = 0; i < g.length(); i++) {
        ways |= endingsFrom(row, g.substring(i), rows);
      }
    }
    return ways;
  }

  private static int endingsFrom(String row, String open, List<String> rows) {
    if (open.startsWith(row)) {
      return open.length() == row.length() ? 2 : 1;
    }
    if (!row.startsWith(open)) {
      return 0;
    }
    int ways = 0;
    for (String g : rows) {
      ways |= endingsFrom(row.substring(open.length()), g, rows);
    }
    return ways;
  }

  @SuppressWarnings("unchecked")
  private List<TreeSet<String>> bordersUpTo4() {
    List<String> rows = inRows();
    String key = "borders" + rows;
    if (!kept.containsKey(key)) {
      List<TreeSet<String>> least = new ArrayList<>();
      for (int n = 0; n <= 4; n++) {
        least.add(new TreeSet<>());
      }
      List<String> ends = List.of("");
      for (int n = 1; n <= 4; n++) {
        List<String> longer = new ArrayList<>();
        for (String end : ends) {
          for (char c : alphabet()) {
            String row = c + end;
            int ways = endings(row, rows);
            if (ways == 2 && !endsWithBorder(row, rows)) {
              least.get(n).add(row);
            }
            if (ways != 0) {
              longer.add(row);
            }
          }
        }
        ends = longer;
      }
      kept.put(key, least);
    }
    return (List<TreeSet<String>>) kept.get(key);
  }

  private static boolean endsWithBorder(String row, List<String> rows) {
    for (int i = 1; i < row.length(); i++) {
      if (endings(row.substring(i), rows) == 2) {
        return true;
      }
    }
    return false;
  }

  long borders(int n) {
    return n < 1 || n > 4 ? -1 : bordersUpTo4().get(n).size();
  }

  long border(int n, int k, int i) {
    if (n < 1 || n > 4 || k < 0 || k >= bordersUpTo4().get(n).size()) {
      return -1;
    }
    return letterOf(new ArrayList<>(bordersUpTo4().get(n)).get(k), i);
  }

  // ---- CURES

  private List<String> changed(int way, long bits) {
    List<String> rows = new ArrayList<>();
    for (int k : in()) {
      boolean is = (bits >> k & 1) == 1;
      if (!is) {
        rows.add(groups.get(k));
      } else if (way == 0) {
        rows.add(groups.get(k) + "{");
      } else if (way == 1) {
        rows.add("{" + groups.get(k));
      }
    }
    return rows;
  }

  long cure(int way) {
    if (way < 0 || way > 2) {
      return -1;
    }
    List<Integer> may = new ArrayList<>();
    for (int k : in()) {
      if (groups.get(k).length() <= 6) {
        may.add(k);
      }
    }
    for (int size = 0; size <= may.size(); size++) {
      long found = cureOf(way, may, size, 0, 0);
      if (found >= 0) {
        return found;
      }
    }
    return -1;
  }

  private long cureOf(int way, List<Integer> may, int size, int from, long bits) {
    if (size == 0) {
      return doubtOf(changed(way, bits)) < 0 ? bits : -1;
    }
    for (int i = from; i < may.size(); i++) {
      long found = cureOf(way, may, size - 1, i + 1, bits | 1L << may.get(i));
      if (found >= 0) {
        return found;
      }
    }
    return -1;
  }

  long mend(int way) {
    long bits = cure(way);
    if (bits <= 0) {
      return -1;
    }
    remember();
    for (int k : in()) {
      if ((bits >> k & 1) == 1) {
        if (way == 2) {
          out.add(k);
        } else {
          groups.set(k, way == 0 ? groups.get(k) + "{" : "{" + groups.get(k));
        }
      }
    }
    return Long.bitCount(bits);
  }

  long out(int k, boolean is) {
    if (k < 0 || k >= groups.size() || out.contains(k) == is) {
      return 0;
    }
    remember();
    if (is) {
      out.add(k);
    } else {
      out.remove(k);
    }
    return 1;
  }

  private void remember() {
    acts.push(new Object[] {new ArrayList<>(groups), new TreeSet<>(out)});
    if (acts.size() > 12) {
      acts.removeLast();
    }
  }

  @SuppressWarnings("unchecked")
  long undo() {
    if (acts.isEmpty()) {
      return 0;
    }
    Object[] before = acts.pop();
    groups = (List<String>) before[0];
    out = (Set<Integer>) before[1];
    return 1;
  }

  // ---- for tests

  String theWord() {
    return word;
  }

  /** Takes over what the object found where trying all would take too long. */
  void setWord(String w) {
    word = w;
  }

  int soundCount() {
    return soundCount;
  }

  int groupCount() {
    return groups.size();
  }

  @Override
  public String toString() {
    return "groups " + groups + " of " + soundOf + " out " + out + " word " + word;
  }
}
