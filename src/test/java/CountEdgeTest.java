import java.io.IOException;

/** The edges of words of each length and of borders: promises 27 to 31 and their terms. */
public final class CountEdgeTest {
  private static final int MAX = Integer.MAX_VALUE;
  private static final int MIN = Integer.MIN_VALUE;
  private static final int T = Sentences.TERMS;
  private static final String FOURTEEN = "sound p=a|b|c|d|e|f|g|h|i|j|k|l|m|n;";
  /** 14 to the 10: more than an int. */
  private static final long MOST_WORDS = 289254654976L;
  private static Sentences s;

  public static void main(String[] args) throws IOException {
    s = new Sentences();
    words();
    noWords();
    nth();
    noNth();
    place();
    borders();
    leastBorders();
    border();
    s.finish(27, 31);
  }

  private static void wordsAre(OneWaySpell x, int n, long some, long once, long doubtful) {
    s.due("words of " + n, x.words(n, 0), some);
    s.due("with one reading, of " + n, x.words(n, 1), once);
    s.due("doubtful ones of " + n, x.words(n, 2), doubtful);
  }

  private static void words() {
    s.says(27, "How many WORDS of n letters (0 .. 10) have a READING (what 0), just one (what 1), are DOUBTFUL (what 2)");
    OneWaySpell none = new OneWaySpell();
    wordsAre(none, 0, 1, 1, 0);
    wordsAre(none, 1, 0, 0, 0);
    wordsAre(none, 10, 0, 0, 0);
    OneWaySpell x = Tapes.of(FOURTEEN);
    wordsAre(x, 0, 1, 1, 0);
    wordsAre(x, 1, 14, 14, 0);
    wordsAre(x, 10, MOST_WORDS, MOST_WORDS, 0);
    OneWaySpell y = Tapes.of("sound p=a|aa;");
    wordsAre(y, 0, 1, 1, 0);
    wordsAre(y, 1, 1, 1, 0);
    wordsAre(y, 2, 1, 0, 1);
    wordsAre(y, 10, 1, 0, 1);
    OneWaySpell six = Tapes.of("sound p=abcdef;");
    wordsAre(six, 5, 0, 0, 0);
    wordsAre(six, 6, 1, 1, 0);
    wordsAre(six, 7, 0, 0, 0);
    wordsAre(six, 10, 0, 0, 0);
    OneWaySpell seven = Tapes.of("sound p=aaaaaa|a;");
    seven.mend(0);
    // aaa, aaaaaa{ ahead or behind of three more, and those between
    wordsAre(seven, 7, 2, 2, 0);
    wordsAre(seven, 10, 5, 5, 0);
    y.out(0, true);
    y.out(1, true);
    wordsAre(y, 0, 1, 1, 0);
    wordsAre(y, 2, 0, 0, 0);
  }

  private static void noWords() {
    s.says(27, "NONE if one can't be");
    OneWaySpell x = Tapes.of("sound p=a|aa;");
    for (int n : new int[] {-1, 11, 12, MAX, MIN}) {
      for (int what = 0; what < 3; what++) {
        s.due("words " + n + " " + what, x.words(n, what), -1);
        s.due("no groups, words " + n + " " + what, new OneWaySpell().words(n, what), -1);
      }
    }
    for (int what : new int[] {-1, 3, 4, MAX, MIN}) {
      s.due("words 0 " + what, x.words(0, what), -1);
      s.due("words 10 " + what, x.words(10, what), -1);
      s.due("words 11 " + what, x.words(11, what), -1);
    }
  }

  private static void nthIs(OneWaySpell x, int n, long k, String want) {
    s.due("nth " + n + " " + k, x.nth(n, k), true);
    s.due("word " + n + " " + k, Tapes.theWord(x), want);
  }

  private static void nth() {
    s.says(28, "The k-th WORD (0 .., as in a dictionary) of n letters (0 .. 10) that has a READING comes to THE WORD: true");
    OneWaySpell x = Tapes.of(FOURTEEN);
    nthIs(x, 10, 0, "aaaaaaaaaa");
    nthIs(x, 10, 1, "aaaaaaaaab");
    nthIs(x, 10, 14, "aaaaaaaaba");
    nthIs(x, 10, MOST_WORDS - 1, "nnnnnnnnnn");
    nthIs(x, 10, 1L << 32, inFourteen(1L << 32));
    nthIs(x, 1, 13, "n");
    nthIs(x, 0, 0, "");
    OneWaySpell none = new OneWaySpell();
    Tapes.word(none, "q");
    nthIs(none, 0, 0, "");
    OneWaySpell y = Tapes.of("sound p=a|aa;");
    nthIs(y, 2, 0, "aa");
    OneWaySpell z = Tapes.of("sound p=a|aa|z;");
    z.mend(0);
    // of a{, aa and z; the mark comes behind z
    nthIs(z, 3, 0, "aaz");
    nthIs(z, 3, 1, "a{z");
    nthIs(z, 3, 2, "zaa");
    nthIs(z, 3, 3, "za{");
    nthIs(z, 3, 4, "zzz");
  }

  private static String inFourteen(long k) {
    StringBuilder b = new StringBuilder();
    long left = k;
    for (int i = 0; i < 10; i++) {
      b.append((char) ('a' + left % 14));
      left /= 14;
    }
    return b.reverse().toString();
  }

  private static void noNth() {
    s.says(28, "false, doing nothing, if there is none such");
    OneWaySpell x = Tapes.of(FOURTEEN);
    Tapes.word(x, "stays");
    long[] odd = {-1, Long.MIN_VALUE, Long.MAX_VALUE, MOST_WORDS, MOST_WORDS + 1};
    for (long k : odd) {
      s.due("nth 10 " + k, x.nth(10, k), false);
      s.due("nth 0 " + k, x.nth(0, k), false);
    }
    s.due("nth 0 1", x.nth(0, 1), false);
    s.due("nth 1 14", x.nth(1, 14), false);
    for (int n : new int[] {-1, 11, 12, MAX, MIN}) {
      s.due("nth " + n, x.nth(n, 0), false);
    }
    s.due("the word", Tapes.theWord(x), "stays");
    OneWaySpell six = Tapes.of("sound p=abcdef;");
    Tapes.word(six, "stays");
    s.due("none of five letters", six.nth(5, 0), false);
    s.due("one of six", six.nth(6, 1), false);
    s.due("the word then", Tapes.theWord(six), "stays");
    OneWaySpell none = new OneWaySpell();
    Tapes.word(none, "stays");
    s.due("no groups", none.nth(1, 0), false);
    s.due("no groups, one empty word", none.nth(0, 1), false);
    s.due("the word at last", Tapes.theWord(none), "stays");
  }

  private static void placeIs(OneWaySpell x, String word, long want) {
    Tapes.word(x, word);
    s.due("place of " + word, x.place(), want);
  }

  private static void place() {
    s.says(29, "Which one (as nth() counts) THE WORD is");
    OneWaySpell x = Tapes.of(FOURTEEN);
    placeIs(x, "", 0);
    placeIs(x, "a", 0);
    placeIs(x, "n", 13);
    placeIs(x, "aaaaaaaaaa", 0);
    placeIs(x, "nnnnnnnnnn", MOST_WORDS - 1);
    x.nth(10, 1L << 33);
    s.due("of nth", x.place(), 1L << 33);
    s.due("no groups, no letters", new OneWaySpell().place(), 0);
    OneWaySpell y = Tapes.of("sound p=a|aa;");
    placeIs(y, "aa", 0);

    s.says(29, "NONE if it has no READING, or more than 10 letters.");
    placeIs(x, "aaaaaaaaaaa", -1);
    placeIs(x, "a".repeat(40), -1);
    placeIs(x, "o", -1);
    placeIs(x, "aaaaaaaaao", -1);
    placeIs(x, "oaaaaaaaaa", -1);
    placeIs(x, "{", -1);
    OneWaySpell six = Tapes.of("sound p=abcdef;");
    placeIs(six, "abcdef", 0);
    placeIs(six, "abcde", -1);
    placeIs(six, "abcdefa", -1);
    placeIs(six, "abcdefabcdef", -1);
    placeIs(new OneWaySpell(), "a", -1);
    six.out(0, true);
    placeIs(six, "abcdef", -1);
    placeIs(six, "", 0);
  }

  private static void bordersAre(OneWaySpell x, String one, String two, String three, String four) {
    String[] want = {one, two, three, four};
    for (int n = 1; n <= 4; n++) {
      s.due("borders of " + n, Tapes.borders(x, n), want[n - 1]);
      s.due("how many of " + n, x.borders(n), want[n - 1].isEmpty() ? 0 : want[n - 1].split(" ").length);
    }
  }

  private static void borders() {
    s.says(30, "How many LEAST BORDERS of n letters (1 .. 4) there are");
    bordersAre(new OneWaySpell(), "", "", "", "");
    bordersAre(Tapes.of("sound p=aaaaaa;"), "", "", "", "");
    bordersAre(Tapes.of("sound p=a|aa;"), "", "", "", "");
    bordersAre(Tapes.of("sound p=a|bbb;"), "a", "", "", "abbb");
    bordersAre(Tapes.of("sound p=a|bbbb;"), "a", "", "", "");
    s.due("as many as groups", Tapes.of(FOURTEEN).borders(1), 14);
    // fourteen of six letters; p to z stand at their ends alone, o inside the last one alone
    OneWaySpell full = Tapes.of("sound p=baaaap|caaaaq|daaaar|eaaaas|faaaat|gaaaau|haaaav|iaaaaw|jaaaax|kaaaay|laaaaz;"
        + "sound q=maaaap|naaaaq|naoaar;");
    bordersAre(full, "p q r s t u v w x y z", "", "", "");
    full.out(10, true);
    bordersAre(full, "p q r s t u v w x y", "", "", "");

    s.says(30, "NONE for another n");
    for (int n : new int[] {0, 5, 6, -1, MAX, MIN}) {
      s.due("n " + n, Tapes.of("sound p=a|bbb;").borders(n), -1);
      s.due("no groups, n " + n, new OneWaySpell().borders(n), -1);
    }
  }

  private static void leastBorders() {
    s.says(T, "BORDER: a row of n letters (1 .. 4) so that, wherever it stands in a WORD that has a READING, in each READING of the "
        + "WORD some GROUP ends where it ends.");
    // a may be inside ab
    bordersAre(Tapes.of("sound p=a|ab|b;"), "b", "", "", "");
    // some reading of aa has a border behind the first a, another one has none
    bordersAre(Tapes.of("sound p=aa|ab|a|b;"), "b", "", "", "");
    bordersAre(Tapes.of("sound p=ab|ba;"), "", "", "aab bba", "");

    s.says(T, "BORDERS that are told are LEAST: no shorter row that it ends with is one; and stand in some WORD that has a READING.");
    bordersAre(Tapes.of("sound p=a|b;"), "a b", "", "", "");
    bordersAre(Tapes.of("sound p=abcdef;"), "f", "", "", "");
    OneWaySpell x = Tapes.of("sound p=a|ab|b;");
    x.out(1, true);
    bordersAre(x, "a b", "", "", "");
    x.out(0, true);
    x.out(2, true);
    bordersAre(x, "", "", "", "");
    OneWaySpell y = Tapes.of("sound p=a|aa;");
    y.mend(0);
    // a{ and aa: a{ ends at its mark; aa behind a mark is two, and then any two
    bordersAre(y, "{", "", "{aa", "");
  }

  private static void border() {
    s.says(31, "Letter i of the k-th of these (as in a dictionary)");
    OneWaySpell x = Tapes.of("sound p=a|bbb;");
    s.due("of one", x.border(1, 0, 0), 'a');
    s.due("of four, first", x.border(4, 0, 0), 'a');
    s.due("of four, last", x.border(4, 0, 3), 'b');
    OneWaySpell y = Tapes.of("sound p=n|m|l|k|j|i|h|g|f|e|d|c|b|a;");
    s.due("first", y.border(1, 0, 0), 'a');
    s.due("last", y.border(1, 13, 0), 'n');
    OneWaySpell z = Tapes.of("sound p=a|aa|z;");
    z.mend(0);
    s.due("the mark is last", z.border(1, 1, 0), 123);

    s.says(31, "NONE if there is none such");
    for (int n : new int[] {0, 5, -1, MAX, MIN}) {
      s.due("n " + n, x.border(n, 0, 0), -1);
    }
    s.due("none of two letters", x.border(2, 0, 0), -1);
    for (int k : new int[] {-1, 1, 2, MAX, MIN}) {
      s.due("k " + k + " of one", x.border(1, k, 0), -1);
      s.due("k " + k + " of four", x.border(4, k, 0), -1);
    }
    s.due("k 14 of 14", y.border(1, 14, 0), -1);
    for (int i : new int[] {-1, 4, 5, MAX, MIN}) {
      s.due("i " + i, x.border(4, 0, i), -1);
    }
    s.due("i 1 of one", x.border(1, 0, 1), -1);
    s.due("no groups", new OneWaySpell().border(1, 0, 0), -1);
  }
}
