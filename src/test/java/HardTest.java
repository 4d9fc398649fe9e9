import java.util.Random;

/** Tables that were sought because they are hard (long witnesses, many rounds, far looks, many borders), against the model. */
public final class HardTest {
  private static final String[] TABLES = {
    "bbbab|aabbbb|aabba|ababbb|bbaabb|baabab|bbaab|bababa|aaabb|aababb|abbbab|bbbbba|aabbb|abbaa",
    "bcbcb|ccaaaa|cabbc|cccac|aa|cbcbca|bacab|abaca|cbbba|ccc|acacca|bbcbb|acbac|cbcabb",
    "eeacc|cabdee|ccbbbc|bcebdb|abdbce|d|cdddca|eedeea|bddbdc|daeeca|ebdbe|adadda|b|bedada",
    "edddee|bdddac|acddea|aedddd|cbacbc|dddddc|eaeae|ccda|addddb|bbddcc|eeddba|d|baddbb|cddde",
    "accaac|babbaa|cabbac|b|aacba|caaacc|bbbbca|abccca|acbbcc|cbbbbc|abbcaa|aabbbb|ccbbcb|baba",
    "cbbbb|bbabc|cccca|aac|abcccc|aaccac|cbbcba|cacc|bccbbc|bbbcbb|baacab|acbccb|bbcbab|acabcb",
    "edea|dcdcdb|aeccdc|eaeb|ababae|ebcccb|cccdcd|edcaca|becced|babab|c|dbe|eccccd|dcdbba",
    "abba|ababa|abbbbb|bababb|babaaa|bbbaba|bba|abbba|bbba|abaa|bbaaaa|bbaba|aabab|aaaba",
    "ge|c|eillbe|jiblkh|l|jdcclf|ekdlcg|jcikkg|b|k|fj|i|d|jlidia",
    "dbebac|de|cd|e|dccbbc|ce|dd|cc|eeeaad|eedec|dcaabd|b|a|edaaae",
    "aa|abb|babbbb|bbb|bbab|aaaab|baabab|aabaab|bababa|bbaab|bbbabb|bbbbbb|aba|a",
    "cbcb|bcbcbb|bbccb|babacb|bacbcc|bbacbc|cbb|ccb|bccbb|a|bbbac|ac|c|cbab",
    "aaa|ba|baa|aaabbb|aab|ab|bbbaa|baaa|bbaa|bba|abaabb|bbba|baaaa|bb",
    "aaaa|babbb|bab|aaa|bba|bbb|ab|bbba|abbbab|bbabb|baaaa|aabbb|bbbabb|bbaaaa",
    "a|aa|aaa|aaaa|aaaaa|aaaaaa",
    "aaaaaa|aaaaa",
    "abcdef|ghijkl|mnopqr|stuvwx|yz|z|y",
    "sound|so|und|sou|nd|s|o|u|n|d|ou|un|ndso|uso",
  };
  private static int wrong = 0;

  private static void due(String what, long got, long want) {
    if (want != Model.UNKNOWN && got != want) {
      wrong++;
      System.out.println(what + " answered " + got + ", due is " + want);
    }
  }

  private static void word(String what, OneWaySpell x, Model m, long got, long want) {
    due(what, got, want);
    if (want == Model.UNKNOWN) {
      m.setWord(Tapes.theWord(x));
    } else if (!Tapes.theWord(x).equals(m.theWord())) {
      wrong++;
      System.out.println(what + " brought " + Tapes.theWord(x) + ", due is " + m.theWord());
    }
  }

  public static void main(String[] args) {
    Random chance = new Random(2026);
    for (String table : TABLES) {
      String text = "sound a=" + table.replaceFirst("\\|", ";sound b=") + ";";
      OneWaySpell x = Tapes.of(text);
      Model m = new Model();
      putInto(m, text);
      all(table, x, m);
      for (int i = 0; i < 6; i++) {
        int k = chance.nextInt(x.about(1));
        due("out of " + table, x.out(k, true) ? 1 : 0, m.out(k, true));
        all(table + " (some out)", x, m);
      }
    }
    System.out.println(wrong == 0 ? "hard tables are answered as by the model" : wrong + " answers are not as due");
    if (wrong != 0) {
      System.exit(1);
    }
  }

  private static void putInto(Model m, String text) {
    for (int at = 0; at < text.length(); at += 20) {
      int[] n = new int[5];
      for (int i = 0; i < 20; i++) {
        n[i / 4] = n[i / 4] << 8 | (at + i < text.length() ? text.charAt(at + i) : ' ');
      }
      m.feed(n);
    }
    m.end(text.length());
    m.table();
  }

  private static void all(String name, OneWaySpell x, Model m) {
    String of = " of " + name;
    due("rounds" + of, x.tails(-1), m.tails(-1));
    for (int r = 1; r <= m.tails(-1); r++) {
      due("round " + r + of, x.tails(r), m.tails(r));
      for (int k = 0; k < m.tails(r); k++) {
        for (int i = 0; i < 7; i++) {
          due("tail " + r + " " + k + " " + i + of, x.tail(r, k, i), m.tail(r, k, i));
        }
      }
    }
    due("doubt" + of, x.doubt(), m.doubt());
    due("look" + of, x.look(), m.look());
    due("share" + of, x.share(0), m.share(0));
    due("share's lower" + of, x.share(1), m.share(1));
    word("witness" + of, x, m, x.witness(), m.witness());
    due("readings" + of, x.readings(), m.readings());
    due("sounds" + of, x.sounds(), m.sounds());
    for (int kind = 0; kind < 3; kind++) {
      due("reads" + of, x.reads(kind), m.reads(kind));
    }
    for (int kind = 0; kind < 3; kind++) {
      word("fool " + kind + of, x, m, x.fool(kind), m.fool(kind));
    }
    for (int n = 1; n <= 4; n++) {
      due("borders " + n + of, x.borders(n), m.borders(n));
      for (int k = 0; k < m.borders(n); k++) {
        for (int i = 0; i < n; i++) {
          due("border " + n + " " + k + " " + i + of, x.border(n, k, i), m.border(n, k, i));
        }
      }
    }
    counts(of, x, m);
    word("spell" + of, x, m, x.spell(0, 1, -1, -1), m.spell(0, 1, -1, -1));
    word("spell three" + of, x, m, x.spell(1, 0, 1, -1), m.spell(1, 0, 1, -1));
    for (int way = 0; way < 3; way++) {
      due("cure " + way + of, x.cure(way), m.cure(way));
    }
  }

  private static void counts(String of, OneWaySpell x, Model m) {
    for (int n = 0; n <= 10; n++) {
      for (int what = 0; what < 3; what++) {
        due("words " + n + " " + what + of, x.words(n, what), m.words(n, what));
      }
      long most = x.words(n, 0);
      for (long k = 0; k < most; k += Math.max(1, most / 7)) {
        word("nth " + n + " " + k + of, x, m, x.nth(n, k) ? 1 : 0, m.nth(n, k));
        due("place of nth " + n + " " + k + of, x.place(), k);
      }
    }
  }
}
