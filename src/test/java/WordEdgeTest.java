import java.io.IOException;

/** The edges of THE WORD, its readings, readers, and what is spelled or drawn: promises 16 to 26 and their terms. */
public final class WordEdgeTest {
  private static final int MAX = Integer.MAX_VALUE;
  private static final int MIN = Integer.MIN_VALUE;
  private static final int T = Sentences.TERMS;
  private static final String A40 = "a".repeat(40);
  /** Its witness has 61 letters, more than the tape can bring. */
  private static final String LONG_WITNESS = "sound p=bcbcb|ccaaaa|cabbc|cccac|aa|cbcbca|bacab;"
      + "sound q=abaca|cbbba|ccc|acacca|bbcbb|acbac|cbcabb;";
  private static Sentences s;

  public static void main(String[] args) throws IOException {
    s = new Sentences();
    wordIsTaken();
    wordIsRefused();
    letter();
    readings();
    reading();
    sounds();
    reads();
    took();
    fool();
    noFool();
    goes();
    spell();
    spellOfOneReading();
    noSpell();
    drawn();
    noneDrawn();
    s.finish(16, 26);
  }

  private static void wordIsTaken() {
    s.says(16, "The TAPE (empty then) is THE WORD: how many letters");
    OneWaySpell x = new OneWaySpell();
    s.due("an empty tape", x.word(), 0);
    s.due("one letter", Tapes.word(x, "z"), 1);
    s.due("empty then", x.about(6), 0);
    s.due("forty", Tapes.word(x, A40), 40);
    s.due("all forty", Tapes.theWord(x), A40);
    s.due("letters that no group has", Tapes.word(x, "az{"), 3);
    s.due("az{", Tapes.theWord(x), "az{");
    s.due("a shorter one", Tapes.word(x, "q"), 1);
    s.due("nothing of the old one", Tapes.theWord(x), "q");
    s.due("an empty tape again", x.word(), 0);
    s.due("no letters", x.about(4), 0);

    s.says(T, "THE WORD: letters that a call read or found; empty at first.");
    OneWaySpell y = new OneWaySpell();
    s.due("letters", y.about(4), 0);
    s.due("letter", y.letter(0), -1);
    s.due("place", y.place(), 0);
    s.due("goes", y.goes(), 0);
    s.due("readings", y.readings(), 1);
  }

  private static void wordIsRefused() {
    s.says(16, "NONE, and THE WORD stays (the TAPE is empty, too): a byte that is no LETTER, or more than 40.");
    OneWaySpell x = new OneWaySpell();
    Tapes.word(x, "stays");
    for (String text : new String[] {A40 + "a", "a".repeat(600), "$" + A40, "$", "ab$", "$ab", "a b", "ab\n", " "}) {
      s.due(text, Tapes.word(x, text), -1);
      s.due("the tape is empty", x.about(6), 0);
      s.due("the word", Tapes.theWord(x), "stays");
    }
    for (int c = 0; c < 256; c++) {
      OneWaySpell y = new OneWaySpell();
      boolean is = c >= 97 && c <= 123;
      s.due("byte " + c, Tapes.word(y, "" + (char) c), is ? 1 : -1);
      s.due("the tape behind " + c, y.about(6), 0);
      s.due("the letter " + c, y.letter(0), is ? c : -1);
    }
    s.due("forty still go", Tapes.word(x, A40), 40);
    s.due("a fault of a word is none of a table", x.fault(0), 0);
  }

  private static void letter() {
    s.says(17, "Letter i of THE WORD");
    OneWaySpell x = new OneWaySpell();
    Tapes.word(x, "az{");
    s.due("first", x.letter(0), 'a');
    s.due("last", x.letter(2), 123);
    Tapes.word(x, "b".repeat(39) + "c");
    s.due("the fortieth", x.letter(39), 'c');
    OneWaySpell w = Tapes.of(LONG_WITNESS);
    s.due("sixty one", w.witness(), 61);
    s.due("all of them", Tapes.theWord(w), "cccacbacabacaccaaaabacabcbcbcabbcbbcbbbacabbcbcbcbcabbcccaaaa");
    s.due("the last one", w.letter(60), 'a');

    s.says(17, "NONE if there is none such");
    for (int i : new int[] {-1, 40, 41, MAX, MIN}) {
      s.due("letter " + i + " of forty", x.letter(i), -1);
    }
    Tapes.word(x, "a");
    s.due("letter 1 of one", x.letter(1), -1);
    s.due("letter 39 of one", x.letter(39), -1);
    x.word();
    s.due("letter 0 of none", x.letter(0), -1);
    s.due("letter 61 of the long one", w.letter(61), -1);
  }

  private static void readings() {
    s.says(18, "How many READINGS THE WORD has (1 of an empty one)");
    s.due("empty, no groups", new OneWaySpell().readings(), 1);
    OneWaySpell x = Tapes.of("sound p=a|aa;");
    s.due("empty", x.readings(), 1);
    Tapes.word(x, "b");
    s.due("none", x.readings(), 0);
    Tapes.word(x, "ab");
    s.due("none of all", x.readings(), 0);
    Tapes.word(x, A40);
    s.due("forty", x.readings(), 165580141);
    x.out(0, true);
    s.due("of aa alone", x.readings(), 1);
    x.out(1, true);
    s.due("all out", x.readings(), 0);
    x.word();
    s.due("empty, all out", x.readings(), 1);
    // a row of forty letters is cut at any of 39 places, but no piece may have seven letters or more
    OneWaySpell y = Tapes.of("sound p=a|aa|aaa|aaaa|aaaaa|aaaaaa;");
    Tapes.word(y, A40);
    s.due("more than an int", y.readings(), piecesOfSixAtMost(40));
    OneWaySpell w = Tapes.of(LONG_WITNESS);
    w.witness();
    s.due("the long one", w.readings(), 2);

    s.says(T, "DOUBTFUL is a WORD with two READINGS or more.");
    Tapes.word(y, "aa");
    s.due("two", y.readings(), 2);
    s.due("aa", y.words(2, 2), 1);
    s.due("aaa has four", y.words(3, 2), 1);
    s.due("a has one", y.words(1, 2), 0);
  }

  /** The last letter is a piece of its own or makes the last piece longer, but never one of seven. */
  private static long piecesOfSixAtMost(int n) {
    long[] ways = new long[n + 1];
    ways[0] = 1;
    for (int m = 1; m <= n; m++) {
      ways[m] = m == 1 ? 1 : 2 * ways[m - 1] - (m > 6 ? ways[m - 7] : 0);
    }
    return ways[n];
  }

  private static void reading() {
    s.says(19, "Of the i-th READING (0 .., by ORDER) the k-th GROUP");
    OneWaySpell x = Tapes.of("sound p=aa|a|b;");
    Tapes.word(x, "aaab");
    s.due("the first", Tapes.reading(x, 0), "0 1 2");
    s.due("the last", Tapes.reading(x, 2), "1 1 1 2");
    OneWaySpell y = Tapes.of("sound p=a|aa|aaa|aaaa|aaaaa|aaaaaa;");
    Tapes.word(y, A40);
    s.due("first of forty groups", y.reading(0, 39), 0);
    s.due("i MAX", y.reading(MAX, 0), 0);

    s.says(T, "ORDER of READINGS of a WORD: as rows of GROUPS' numbers, as in a dictionary.");
    s.due("the second", Tapes.reading(x, 1), "1 0 2");
    OneWaySpell z = Tapes.of("sound q=b|aab|a|aa|ab;");
    Tapes.word(z, "aab");
    s.due("1", Tapes.reading(z, 0), "1");
    s.due("2 2 0", Tapes.reading(z, 1), "2 2 0");
    s.due("2 4", Tapes.reading(z, 2), "2 4");
    s.due("3 0", Tapes.reading(z, 3), "3 0");

    s.says(19, "NONE if there is none such");
    for (int i : new int[] {-1, 3, 4, MAX, MIN}) {
      s.due("reading " + i, x.reading(i, 0), -1);
    }
    for (int k : new int[] {-1, 3, 4, MAX, MIN}) {
      s.due("group " + k, x.reading(0, k), -1);
    }
    s.due("group 4 of four", x.reading(2, 4), -1);
    s.due("group 40 of forty", y.reading(0, 40), -1);
    x.word();
    s.due("the one reading of an empty word has no group", x.reading(0, 0), -1);
    s.due("no second one", x.reading(1, 0), -1);
    Tapes.word(x, "aac");
    s.due("no reading, though groups fit", x.reading(0, 0), -1);
    s.due("no groups", new OneWaySpell().reading(0, 0), -1);
  }

  private static void sounds() {
    s.says(20, "How many unlike rows of SOUNDS the first two READINGS of THE WORD tell: 0, 1, 2.");
    OneWaySpell x = Tapes.of("sound p=a|ab;sound q=bc|c;");
    s.due("an empty word has one", x.sounds(), 1);
    s.due("without groups, too", new OneWaySpell().sounds(), 1);
    Tapes.word(x, "b");
    s.due("no reading", x.sounds(), 0);
    Tapes.word(x, "a");
    s.due("one reading", x.sounds(), 1);
    Tapes.word(x, "abc");
    s.due("two of one row", x.sounds(), 1);
    OneWaySpell y = Tapes.of("sound p=a|ab;sound q=bc;sound r=c;");
    Tapes.word(y, "abc");
    s.due("two of two rows", y.sounds(), 2);
    Tapes.word(y, "abca");
    s.due("unlike at first, alike at last", y.sounds(), 2);
    Tapes.word(y, "aabc");
    s.due("alike at first, unlike at last", y.sounds(), 2);
    OneWaySpell z = Tapes.of("sound p=a|aa;");
    Tapes.word(z, "aa");
    s.due("one row begins the other", z.sounds(), 2);
    OneWaySpell w = Tapes.of("sound p=aa|a;sound q=b;");
    Tapes.word(w, "aaab");
    s.due("the third is not asked", w.sounds(), 1);
    w.out(0, true);
    s.due("one left", w.sounds(), 1);
    w.out(1, true);
    s.due("none left", w.sounds(), 0);
  }

  private static void reads() {
    s.says(21, "How a READER of a KIND reads THE WORD: how many GROUPS");
    OneWaySpell x = Tapes.of("sound p=ab|a|abc|cd|c;");
    for (int kind = 0; kind < 3; kind++) {
      s.due("an empty word, kind " + kind, x.reads(kind), 0);
      s.due("no groups, kind " + kind, new OneWaySpell().reads(kind), 0);
    }
    Tapes.word(x, A40);
    s.due("forty", x.reads(1), 40);
    OneWaySpell w = Tapes.of(LONG_WITNESS);
    w.witness();
    s.due("the long one's first reading begins as the least number does", w.took(2, 0), w.reading(0, 0));

    s.says(T, "at each place it takes that GROUP which fits there (all of it within the WORD)");
    Tapes.word(x, "ab");
    s.due("abc is too long", Tapes.taken(x, 0), "0");
    Tapes.word(x, "abc");
    s.due("abc fits", Tapes.taken(x, 0), "2");
    s.due("kind 2 takes ab", Tapes.taken(x, 2), "0 4");

    s.says(T, "of several the longest (0), the shortest (1), that of the least number (2); it FAILS, if none fits.");
    Tapes.word(x, "abca");
    s.due("longest", Tapes.taken(x, 0), "2 1");
    s.due("shortest", Tapes.taken(x, 1), "1");
    s.due("which fails at b", x.reads(1), -1);
    s.due("least number", Tapes.taken(x, 2), "0 4 1");

    s.says(21, "NONE if it FAILS");
    Tapes.word(x, "abcd");
    s.due("at its last letter", x.reads(0), -1);
    s.due("behind a", x.reads(1), -1);
    s.due("kind 2 does not", x.reads(2), 2);
    Tapes.word(x, "z");
    s.due("at its first letter", x.reads(2), -1);
    Tapes.word(x, "ababz");
    s.due("behind two", x.reads(2), -1);
    OneWaySpell none = new OneWaySpell();
    Tapes.word(none, "a");
    s.due("no groups", none.reads(0), -1);

    s.says(21, "-2 for another KIND");
    for (int kind : new int[] {-1, 3, 4, -2, MAX, MIN}) {
      s.due("kind " + kind, x.reads(kind), -2);
      s.due("no groups, kind " + kind, new OneWaySpell().reads(kind), -2);
    }
  }

  private static void took() {
    s.says(22, "The k-th GROUP that a READER takes (also ahead of where it FAILS)");
    OneWaySpell x = Tapes.of("sound p=ab|a|abc|cd|c;");
    Tapes.word(x, "ababz");
    s.due("the first", x.took(0, 0), 0);
    s.due("the last ahead of z", x.took(0, 1), 0);
    s.due("and it fails", x.reads(0), -1);
    Tapes.word(x, A40);
    s.due("the last of forty", x.took(0, 39), 1);

    s.says(22, "NONE if there is none such, or for another KIND");
    s.due("41st of forty", x.took(0, 40), -1);
    s.due("-1", x.took(0, -1), -1);
    s.due("MAX", x.took(0, MAX), -1);
    s.due("MIN", x.took(0, MIN), -1);
    for (int kind : new int[] {-1, 3, -2, MAX, MIN}) {
      s.due("kind " + kind, x.took(kind, 0), -1);
    }
    Tapes.word(x, "ababz");
    s.due("where it fails", x.took(0, 2), -1);
    s.due("behind where it fails", x.took(0, 3), -1);
    Tapes.word(x, "z");
    s.due("it fails at once", x.took(2, 0), -1);
    x.word();
    s.due("an empty word", x.took(1, 0), -1);
    s.due("no groups", new OneWaySpell().took(0, 0), -1);
  }

  private static void foolIs(OneWaySpell x, int kind, String want) {
    s.due("letters of " + want, x.fool(kind), want.length());
    s.due("fool of " + kind, Tapes.theWord(x), want);
  }

  private static void fool() {
    s.says(23, "FOOL of a KIND comes to THE WORD: how many letters");
    OneWaySpell x = Tapes.of("sound p=a|abcdef|bcde|fghijk;");
    foolIs(x, 0, "abcdefghijk");
    foolIs(x, 1, "abcdef");
    foolIs(x, 2, "abcdef");
    OneWaySpell y = Tapes.of("sound p=abcdef|a|bcde|fghijk;");
    foolIs(y, 2, "abcdefghijk");
    // abcdef{ and {ghijkl: the longest that can be
    OneWaySpell z = Tapes.of("sound p=abcdef|a|bcdef|ghijkl|g|hijkl;");
    z.out(3, true);
    z.mend(0);
    z.out(3, false);
    z.out(0, true);
    z.mend(1);
    z.out(0, false);
    z.out(4, true);
    s.due("abcdef{", Tapes.group(z, 0), "abcdef{");
    s.due("{ghijkl", Tapes.group(z, 3), "{ghijkl");
    foolIs(z, 0, "abcdef{ghijkl");

    s.says(T, "FOOL of a KIND: the shortest WORD that some row of GROUPS makes and that the READER doesn't read as that row "
        + "(fails, too); of like ones the first as in a dictionary.");
    foolIs(Tapes.of("sound p=a|aa;"), 0, "aa");
    foolIs(Tapes.of("sound p=a|aa;"), 1, "aa");
    foolIs(Tapes.of("sound p=aa|a;"), 2, "aa");
    foolIs(Tapes.of("sound p=ab|a|bz|by;"), 0, "aby");
    foolIs(Tapes.of("sound p=b|a|bz|az;"), 1, "az");
    foolIs(Tapes.of("sound p=b|a|bz|az;"), 2, "az");
    OneWaySpell w = Tapes.of("sound p=ab|a|bc;");
    foolIs(w, 0, "abc");
    s.due("it fails there", w.reads(0), -1);
    s.due("one reading alone", w.readings(), 1);
  }

  private static void noFool() {
    s.says(23, "NONE, and THE WORD stays, if there is none");
    for (int kind = 0; kind < 3; kind++) {
      OneWaySpell x = Tapes.of("sound p=a|ba|bb;");
      Tapes.word(x, "stays");
      s.due("none begins another", x.fool(kind), -1);
      s.due("the word", Tapes.theWord(x), "stays");
      s.due("no groups", new OneWaySpell().fool(kind), -1);
      OneWaySpell one = Tapes.of("sound p=aa|a;");
      one.out(kind == 0 ? 0 : 1, true);
      s.due("one group", one.fool(kind), -1);
    }
    OneWaySpell y = Tapes.of("sound p=ab|a;");
    Tapes.word(y, "q");
    s.due("the longest is right", y.fool(0), -1);
    s.due("the shortest is not", y.fool(1), 2);
    Tapes.word(y, "q");
    s.due("the least number is right", y.fool(2), -1);
    s.due("q", Tapes.theWord(y), "q");

    s.says(23, "-2 (it stays) for another KIND");
    for (int kind : new int[] {-1, 3, 4, -2, MAX, MIN}) {
      s.due("kind " + kind, y.fool(kind), -2);
      s.due("stays", Tapes.theWord(y), "q");
      s.due("no groups, kind " + kind, new OneWaySpell().fool(kind), -2);
    }
  }

  private static void goesFar(OneWaySpell x, String word, int want) {
    Tapes.word(x, word);
    s.due("goes of " + word, x.goes(), want);
  }

  private static void goes() {
    s.says(24, "The longest beginning of THE WORD that some longer or like WORD with a READING begins with: how many letters.");
    OneWaySpell x = Tapes.of("sound p=abc|abd|cab;");
    goesFar(x, "", 0);
    goesFar(x, "z", 0);
    goesFar(x, "b", 0);
    goesFar(x, "a", 1);
    goesFar(x, "ab", 2);
    goesFar(x, "abc", 3);
    goesFar(x, "abcz", 3);
    goesFar(x, "abcca", 5);
    goesFar(x, "abccaz", 5);
    goesFar(x, "abccabab", 8);
    goesFar(x, "abz", 2);
    goesFar(x, "c".repeat(40), 1);
    goesFar(x, "abc".repeat(13) + "a", 40);
    goesFar(x, "abc".repeat(13) + "b", 39);
    OneWaySpell w = Tapes.of(LONG_WITNESS);
    w.witness();
    s.due("all of the long one", w.goes(), 61);
    x.out(0, true);
    goesFar(x, "abc", 2);
    x.out(1, true);
    x.out(2, true);
    goesFar(x, "abc", 0);
    goesFar(new OneWaySpell(), "abc", 0);
    // a way that ends early and one that goes on: ab z.. is none, but abc is open
    goesFar(Tapes.of("sound p=ab|abcd;"), "abcz", 3);
  }

  private static void spelled(OneWaySpell x, int a, int b, int c, int d, String want) {
    s.due("letters of " + want, x.spell(a, b, c, d), want.length());
    s.due("spelled", Tapes.theWord(x), want);
  }

  private static void spell() {
    s.says(25, "SPELLED by SOUNDS (b, c, d: NONE: none more) comes to THE WORD: how many letters");
    OneWaySpell x = Tapes.of("sound a=a;sound b=b;sound c=c;sound d=d;sound e=e;sound f=f;sound g=g;sound h=h;"
        + "sound i=i;sound j=jklmno;");
    spelled(x, 0, -1, -1, -1, "a");
    spelled(x, 9, -1, -1, -1, "jklmno");
    spelled(x, 0, 9, -1, -1, "ajklmno");
    spelled(x, 3, 2, 1, -1, "dcb");
    spelled(x, 9, 9, 9, 9, "jklmno".repeat(4));
    OneWaySpell y = Tapes.of("sound p=aaaaaa|a;");
    y.mend(0);
    y.out(1, true);
    spelled(y, 0, 0, 0, 0, "aaaaaa{".repeat(4));

    s.says(T, "SPELLED, of a row of 1 .. 4 SOUNDS: of all rows of GROUPS, one of each SOUND, in their order");
    OneWaySpell z = Tapes.of("sound p=ab;sound q=c;");
    spelled(z, 0, 1, -1, -1, "abc");
    spelled(z, 1, 0, -1, -1, "cab");
    spelled(z, 0, 0, 1, 0, "ababcab");
    s.due("of none", z.spell(-1, -1, -1, -1), -1);
  }

  private static void spellOfOneReading() {
    s.says(T, "that make a WORD with just one READING, the one with the shortest WORD, of like ones the first as a row of numbers");
    OneWaySpell x = Tapes.of("sound p=zzz|y|x;");
    spelled(x, 0, -1, -1, -1, "y");
    spelled(x, 0, 0, -1, -1, "yy");
    x.out(1, true);
    spelled(x, 0, 0, 0, 0, "xxxx");
    OneWaySpell y = Tapes.of("sound p=a|ab;sound q=b|c;");
    // a b is ab, too
    spelled(y, 0, 1, -1, -1, "ac");
    y.out(3, true);
    s.due("a b and ab b have two", y.spell(0, 1, -1, -1), -1);
    y.out(1, true);
    spelled(y, 0, 1, -1, -1, "ab");
    OneWaySpell z = Tapes.of("sound p=ba|b;sound q=cd|acd;");
    // ba cd and b acd are one word, so each has two
    spelled(z, 0, 1, -1, -1, "bcd");
    OneWaySpell w = Tapes.of("sound p=cc|c|a;sound q=b|bb;");
    // two letters: cb, ab; c's number is less
    spelled(w, 0, 1, -1, -1, "cb");
  }

  private static void noSpell() {
    s.says(25, "NONE, and THE WORD stays, if there is none, or one can't be (NONE ahead of one, too).");
    OneWaySpell x = Tapes.of("sound p=a|aa;sound q=c;");
    Tapes.word(x, "stays");
    s.due("each has two readings", x.spell(0, 0, -1, -1), -1);
    s.due("each of four has", x.spell(0, 0, 1, 0), -1);
    for (int odd : new int[] {-2, 2, 14, MAX, MIN}) {
      s.due("first " + odd, x.spell(odd, -1, -1, -1), -1);
      s.due("second " + odd, x.spell(1, odd, -1, -1), -1);
      s.due("third " + odd, x.spell(1, 1, odd, -1), -1);
      s.due("fourth " + odd, x.spell(1, 1, 1, odd), -1);
    }
    s.due("none at all", x.spell(-1, -1, -1, -1), -1);
    s.due("NONE ahead of the second", x.spell(-1, 1, -1, -1), -1);
    s.due("NONE ahead of the third", x.spell(1, -1, 1, -1), -1);
    s.due("NONE ahead of the fourth", x.spell(1, 1, -1, 1), -1);
    s.due("two ahead of the fourth", x.spell(1, -1, -1, 1), -1);
    s.due("three ahead of the fourth", x.spell(-1, -1, -1, 1), -1);
    s.due("NONE ahead of all", x.spell(-1, 1, 1, 1), -1);
    x.out(2, true);
    s.due("its groups are out", x.spell(1, -1, -1, -1), -1);
    s.due("those of the last are out", x.spell(0, 1, -1, -1), -1);
    s.due("the word", Tapes.theWord(x), "stays");
    s.due("the first sound still is", x.spell(0, -1, -1, -1), 1);
    s.due("no sounds", new OneWaySpell().spell(0, -1, -1, -1), -1);
  }

  /** The document's numbers by longs, of which the last 32 bits count. */
  private static String drawnBy(long seed, int n, String... groups) {
    StringBuilder b = new StringBuilder();
    long now = seed;
    for (int i = 0; i < n; i++) {
      now = now * 1103515245L + 12345L & 0xffffffffL;
      b.append(groups[(int) ((now >> 16) % groups.length)]);
    }
    return b.toString();
  }

  private static void drawn() {
    s.says(26, "n (1 .. 5) GROUPS that are DRAWN by a seed make THE WORD: how many letters");
    OneWaySpell x = Tapes.of("sound p=a|bc|def;sound q=ghij|klmno|pqrstu|v;");
    String[] seven = {"a", "bc", "def", "ghij", "klmno", "pqrstu", "v"};
    for (int n = 1; n <= 5; n++) {
      s.due("letters of " + n, x.drawn(7, n), drawnBy(7, n, seven).length());
      s.due("word of " + n, Tapes.theWord(x), drawnBy(7, n, seven));
    }
    OneWaySpell y = Tapes.of("sound p=aaaaaa|a;");
    y.mend(0);
    y.out(1, true);
    s.due("35 letters", y.drawn(MIN, 5), 35);
    s.due("one group alone", Tapes.theWord(y), "aaaaaa{".repeat(5));

    s.says(T, "each time the seed becomes seed * 1103515245 + 12345 (an int, wrapping), (seed >>> 16) % how many GROUPS there are "
        + "(not OUT) tells which of these comes, by number.");
    for (int seed : new int[] {0, 1, -1, 2, -2, 65535, 65536, -65536, MAX, MIN, MAX - 1, MIN + 1}) {
      x.drawn(seed, 5);
      s.due("by " + seed, Tapes.theWord(x), drawnBy(seed, 5, seven));
    }
    x.out(0, true);
    x.out(3, true);
    x.out(6, true);
    for (int seed : new int[] {0, 1, -1, MAX, MIN}) {
      x.drawn(seed, 5);
      s.due("four left, by " + seed, Tapes.theWord(x), drawnBy(seed, 5, "bc", "def", "klmno", "pqrstu"));
    }
  }

  private static void noneDrawn() {
    s.says(26, "NONE, and THE WORD stays, without GROUPS, or for another n.");
    OneWaySpell x = Tapes.of("sound p=a|b;");
    Tapes.word(x, "stays");
    for (int n : new int[] {0, 6, 7, -1, MAX, MIN}) {
      s.due("n " + n, x.drawn(1, n), -1);
      s.due("the word", Tapes.theWord(x), "stays");
    }
    x.out(0, true);
    s.due("one is enough", x.drawn(1, 1), 1);
    Tapes.word(x, "stays");
    x.out(1, true);
    s.due("all out", x.drawn(1, 1), -1);
    s.due("stays then", Tapes.theWord(x), "stays");
    s.due("no table", new OneWaySpell().drawn(1, 1), -1);
    s.due("no table, n 5", new OneWaySpell().drawn(0, 5), -1);
  }
}
