import java.io.IOException;

/** The edges of whether a table parts: promises 9 to 15 and their terms. */
public final class PartEdgeTest {
  private static final int MAX = Integer.MAX_VALUE;
  private static final int MIN = Integer.MIN_VALUE;
  private static final int T = Sentences.TERMS;
  /** Rounds: bb d; cde eb; de; b; ad bcde. */
  private static final String FIVE_ROUNDS = "sound x = a | c | ad | abb | bad | deb | bbcde ;";
  private static Sentences s;

  public static void main(String[] args) throws IOException {
    s = new Sentences();
    parts();
    firstRound();
    laterRounds();
    tails();
    tail();
    doubt();
    witness();
    look();
    lookWithoutBound();
    share();
    s.finish(9, 15);
  }

  /** A group of seven letters: abcdef{ and a and bcdef. */
  private static OneWaySpell sevenLetters() {
    OneWaySpell x = Tapes.of("sound p=abcdef|a|bcdef;");
    x.mend(0);
    return x;
  }

  private static OneWaySpell allOut(String text) {
    OneWaySpell x = Tapes.of(text);
    for (int k = 0; k < x.about(1); k++) {
      x.out(k, true);
    }
    return x;
  }

  private static void parts() {
    s.says(9, "1 if the TABLE PARTS, else 0.");
    s.due("parts", Tapes.of("sound p=a|ab|bb;").parts(), 1);
    s.due("does not", Tapes.of("sound p=a|ab|b;").parts(), 0);
    s.due("the least that does not", Tapes.of("sound p=a|aa;").parts(), 0);
    s.due("the longest that does not", Tapes.of("sound p=aaaaaa|aaaaa;").parts(), 0);

    s.says(T, "The TABLE PARTS, if no WORD is DOUBTFUL.");
    s.due("no groups", new OneWaySpell().parts(), 1);
    s.due("one group", Tapes.of("sound p=aaaaaa;").parts(), 1);
    s.due("all out", allOut("sound p=a|aa|aaa;").parts(), 1);
    OneWaySpell x = allOut("sound p=a|aa|aaa;");
    x.out(1, false);
    s.due("one in", x.parts(), 1);
    x.out(0, false);
    s.due("two in", x.parts(), 0);
    s.due("a reading is told by groups, not by sounds", Tapes.of("sound p=a;sound q=aa;").parts(), 0);

    s.says(T, "(Of GROUPS that are not OUT.)");
    OneWaySpell y = Tapes.of("sound p=a|ab|b;");
    Tapes.word(y, "ab");
    s.due("two readings", y.readings(), 2);
    y.out(1, true);
    s.due("one", y.readings(), 1);
    y.out(0, true);
    s.due("none", y.readings(), 0);
    s.due("nothing dangles", y.tails(-1), 0);
  }

  private static void firstRound() {
    s.says(T, "of ROUND 1: for two unlike GROUPS of which one begins the other, what is left of that.");
    s.due("one group has no tail", Tapes.of("sound p=aa;").tails(1), 0);
    s.due("one letter left", Tapes.tails(Tapes.of("sound p=abcdef|abcde;"), 1), "f");
    s.due("five letters left", Tapes.tails(Tapes.of("sound p=abcdef|a;"), 1), "bcdef");
    s.due("six letters left", Tapes.tails(sevenLetters(), 1), "bcdef{");
    s.due("an end is no beginning", Tapes.of("sound p=bcdef|abcdef;").tails(1), 0);
    s.due("one that comes twice is one", Tapes.tails(Tapes.of("sound p=a|ax|b|bx;"), 1), "x");
    OneWaySpell x = Tapes.of("sound p=a|ab;");
    x.out(0, true);
    s.due("not of one that is out", x.tails(1), 0);
  }

  private static void laterRounds() {
    s.says(T, "if that is no TAIL of ROUNDS 1 .. n, and they are not alike");
    OneWaySpell x = Tapes.of("sound p=a|ab|b;");
    s.due("b and b are alike", x.tails(-1), 1);
    s.due("b", Tapes.tails(x, 1), "b");
    OneWaySpell y = Tapes.of("sound p=a|ab|bb;");
    s.due("b of bb was in round 1", y.tails(-1), 1);
    OneWaySpell z = Tapes.of("sound p=a|ab|bc|ca|bcab;");
    // a, ab: b; bc, bcab: ab
    s.due("round 1", Tapes.tails(z, 1), "ab b");
    // ab, a: b (was); b, bc: c; b, bcab: cab
    s.due("round 2", Tapes.tails(z, 2), "c cab");
    // c, ca: a; cab, ca: b (was)
    s.due("round 3", Tapes.tails(z, 3), "a");
    // a, ab: b (was); a and a are alike
    s.due("round 4", z.tails(4), 0);
    s.due("three rounds", z.tails(-1), 3);

    s.says(T, "(ROUNDS go on, also behind DOUBT, till one has no TAIL.)");
    s.due("doubt in round 1 of three", z.doubt(), 1);
    OneWaySpell w = Tapes.of("sound p=a|ab|b|x|xd|de|ef|fg;");
    s.due("doubt in round 1", w.doubt(), 1);
    s.due("four rounds", w.tails(-1), 4);
    s.due("round 2", Tapes.tails(w, 2), "e");
    s.due("round 3", Tapes.tails(w, 3), "f");
    s.due("round 4", Tapes.tails(w, 4), "g");
    s.due("no round 5", w.tails(5), 0);
  }

  private static void tails() {
    s.says(10, "How many ROUNDS have a TAIL (round NONE)");
    OneWaySpell x = Tapes.of(FIVE_ROUNDS);
    s.due("five", x.tails(OneWaySpell.NONE), 5);
    s.due("no groups", new OneWaySpell().tails(-1), 0);
    s.due("one group", Tapes.of("sound p=a;").tails(-1), 0);
    s.due("one round", Tapes.of("sound p=a|ab;").tails(-1), 1);
    s.due("all out", allOut(FIVE_ROUNDS).tails(-1), 0);

    s.says(10, "how many TAILS one has (1 ..; 0 if there is none such)");
    s.due("round 1", x.tails(1), 2);
    s.due("round 4", x.tails(4), 1);
    s.due("round 5", x.tails(5), 2);
    for (int round : new int[] {0, 6, 7, 100, -2, -3, MAX, MIN}) {
      s.due("round " + round, x.tails(round), 0);
    }
    for (int round : new int[] {0, 1, 2, -2, MAX, MIN}) {
      s.due("no groups, round " + round, new OneWaySpell().tails(round), 0);
    }
  }

  private static void tail() {
    s.says(11, "Letter i of the k-th TAIL (both from 0 on, so in all below) of a ROUND (TAILS of one ROUND as in a dictionary)");
    OneWaySpell x = Tapes.of(FIVE_ROUNDS);
    s.due("first of all", x.tail(1, 0, 0), 'b');
    s.due("its last letter", x.tail(1, 0, 1), 'b');
    s.due("last of round 1", x.tail(1, 1, 0), 'd');
    s.due("last of all", x.tail(5, 1, 3), 'e');
    OneWaySpell y = Tapes.of("sound p=a|ab|aba|abb|az|aab;");
    s.due("a beginning comes first, and all come once", Tapes.tails(y, 1), "a ab b ba bb z");
    OneWaySpell z = sevenLetters();
    s.due("six letters", z.tail(1, 0, 5), 123);
    s.due("then the mark alone", Tapes.tails(z, 2), "{");

    s.says(11, "NONE if there is none such");
    for (int round : new int[] {0, -1, -2, 6, MAX, MIN}) {
      s.due("round " + round, x.tail(round, 0, 0), -1);
    }
    for (int k : new int[] {-1, 2, 3, MAX, MIN}) {
      s.due("tail " + k + " of round 1", x.tail(1, k, 0), -1);
      s.due("tail " + k + " of round 5", x.tail(5, k, 0), -1);
    }
    s.due("tail 1 of round 3", x.tail(3, 1, 0), -1);
    for (int i : new int[] {-1, 2, 3, MAX, MIN}) {
      s.due("letter " + i, x.tail(1, 0, i), -1);
    }
    s.due("letter 1 of d", x.tail(1, 1, 1), -1);
    s.due("letter 4 of bcde", x.tail(5, 1, 4), -1);
    s.due("letter 6 of six", z.tail(1, 0, 6), -1);
    s.due("no groups", new OneWaySpell().tail(1, 0, 0), -1);
    s.due("all out", allOut(FIVE_ROUNDS).tail(1, 0, 0), -1);
  }

  private static void doubt() {
    s.says(12, "The first ROUND in which DOUBT comes up");
    s.due("the first", Tapes.of("sound p=a|aa;").doubt(), 1);
    s.due("the fifth, the last", Tapes.of(FIVE_ROUNDS).doubt(), 5);
    // round 1: b d, b is a group; round 2: e of de, a group, too
    s.due("the first of two", Tapes.of("sound p=a|ab|b|x|xd|de|e;").doubt(), 1);

    s.says(T, "DOUBT comes up in a ROUND, if a TAIL of the ROUND is a GROUP.");
    s.due("a tail that begins a group is none", Tapes.of("sound p=a|ab|bc;").doubt(), -1);
    s.due("a tail that ends a group is none", Tapes.of("sound p=a|ab|cb;").doubt(), -1);
    s.due("a tail of five letters is one", Tapes.of("sound p=a|abcdef|bcdef;").doubt(), 1);

    s.says(12, "NONE if it doesn't");
    s.due("tails, no doubt", Tapes.of("sound p=a|ab|bb;").doubt(), -1);
    s.due("no tails", Tapes.of("sound p=a|b;").doubt(), -1);
    s.due("no groups", new OneWaySpell().doubt(), -1);
    s.due("all out", allOut("sound p=a|aa;").doubt(), -1);
    OneWaySpell x = Tapes.of("sound p=a|ab|b;");
    x.out(2, true);
    s.due("the tail is a group that is out", x.doubt(), -1);
  }

  private static void witness() {
    s.says(13, "WITNESS comes to THE WORD: how many letters");
    OneWaySpell x = Tapes.of("sound p=a|aa;");
    s.due("the shortest that can be", x.witness(), 2);
    s.due("aa", Tapes.theWord(x), "aa");
    OneWaySpell y = Tapes.of("sound p=aaaaaa|aaaaa;");
    s.due("five and six, six and five", y.witness(), 11);
    s.due("all a", Tapes.theWord(y), "a".repeat(11));
    s.due("two readings", y.readings(), 2);

    s.says(T, "WITNESS: the shortest DOUBTFUL WORD; of like ones the first as in a dictionary.");
    OneWaySpell z = Tapes.of("sound p=z|zz|ya|y|a|b|yb;");
    s.due("two letters", z.witness(), 2);
    s.due("ya, not yb, zz", Tapes.theWord(z), "ya");
    z.out(4, true);
    s.due("two letters still", z.witness(), 2);
    s.due("yb", Tapes.theWord(z), "yb");
    OneWaySpell w = Tapes.of("sound p=aba|ab|a|zz|z;");
    s.due("zz is shorter than aba", w.witness(), 2);
    s.due("zz", Tapes.theWord(w), "zz");

    // x and ax are marked, each beside what it is in doubt with; then a comes in
    OneWaySpell m = Tapes.of("sound p=x|ax|xx|axax|a;");
    m.out(1, true);
    m.out(3, true);
    m.mend(0);
    m.out(0, true);
    m.out(1, false);
    m.out(3, false);
    m.mend(0);
    m.out(0, false);
    m.out(2, true);
    m.out(3, true);
    s.due("with the mark", m.witness(), 3);
    s.due("ax{", Tapes.theWord(m), "ax{");

    s.says(13, "NONE, and THE WORD stays, if the TABLE PARTS");
    OneWaySpell v = Tapes.of("sound p=a|ab|bb;");
    s.due("empty", v.witness(), -1);
    s.due("empty still", v.about(4), 0);
    Tapes.word(v, "aq{");
    s.due("none", v.witness(), -1);
    s.due("stays", Tapes.theWord(v), "aq{");
    s.due("no groups", new OneWaySpell().witness(), -1);
    s.due("all out", allOut("sound p=a|aa;").witness(), -1);
    x.out(0, true);
    s.due("parts now", x.witness(), -1);
    s.due("the old one stays", Tapes.theWord(x), "aa");
  }

  private static void look() {
    s.says(14, "(without GROUPS, with one alone 0)");
    s.due("without", new OneWaySpell().look(), 0);
    s.due("one alone", Tapes.of("sound p=aaaaaa;").look(), 0);
    s.due("all out", allOut("sound p=a|aa;").look(), 0);
    OneWaySpell x = allOut("sound p=a|aa;");
    x.out(1, false);
    s.due("one in", x.look(), 0);

    s.says(T, "the most letters that the words they make can have in common from their beginnings");
    s.due("nothing in common", Tapes.of("sound p=a|ba;").look(), 0);
    s.due("one", Tapes.of("sound p=ab|ac|b;").look(), 1);
    s.due("one, all of a", Tapes.of("sound p=a|ab;").look(), 1);
    s.due("two, a a", Tapes.of("sound p=a|aab;").look(), 2);
    s.due("five of six", Tapes.of("sound p=aaaaaa|aaaaab;").look(), 5);
    s.due("five, then no more", Tapes.of("sound p=aaaaa|aaaaab;").look(), 5);
    s.due("six of seven", sevenLetters().look(), 6);
    // ab cde and abc dx: abcd
    s.due("over a border", Tapes.of("sound p=ab|abc|cde|dx;").look(), 4);
  }

  private static void lookWithoutBound() {
    s.says(14, "NONE as above");
    s.due("no bound", Tapes.of("sound p=a|ab|bb;").look(), -1);
    s.due("no bound, six letters", Tapes.of("sound p=a|ab|bbbbbb;").look(), -1);
    s.due("does not part", Tapes.of("sound p=a|aa;").look(), -1);
    s.due("does not part, late", Tapes.of(FIVE_ROUNDS).look(), -1);
    OneWaySpell x = Tapes.of("sound p=a|ab|bb;");
    x.out(2, true);
    s.due("bounded without bb", x.look(), 1);
    x.undo();
    s.due("no bound again", x.look(), -1);

    s.says(T, "NONE, if there is no bound, or the TABLE does not PART.");
    // a bc bc .. and ab cb cb ..: letters in common without end, and it parts
    OneWaySpell y = Tapes.of("sound p=a|ab|bc|cb;");
    s.due("it parts", y.parts(), 1);
    s.due("no bound", y.look(), -1);
  }

  private static void share() {
    s.says(15, "SHARE what 0: the upper, 1: the lower number (0, 1 without GROUPS)");
    OneWaySpell none = new OneWaySpell();
    s.due("upper of none", none.share(0), 0);
    s.due("lower of none", none.share(1), 1);
    OneWaySpell out = allOut("sound p=a|aa|b;");
    s.due("upper, all out", out.share(0), 0);
    s.due("lower, all out", out.share(1), 1);
    OneWaySpell one = Tapes.of("sound p=aaaaaa;");
    s.due("upper of one letter, K is 2", one.share(0), 1);
    s.due("lower of one letter, K is 2", one.share(1), 64);

    s.says(T, "in lowest terms");
    OneWaySpell x = Tapes.of("sound p=a|b;");
    s.due("just 1, upper", x.share(0), 1);
    s.due("just 1, lower", x.share(1), 1);
    OneWaySpell y = Tapes.of("sound p=a|b|ab|ba;");
    s.due("3/2, upper", y.share(0), 3);
    s.due("3/2, lower", y.share(1), 2);
    OneWaySpell z = Tapes.of("sound p=a|b|c|d|e|f|g|h|i|j|k|l|m|n;");
    s.due("14/14, upper", z.share(0), 1);
    s.due("14/14, lower", z.share(1), 1);
    // 27 letters: 1 by 27^7, four by 27^6, one by 27^2, one by 27
    OneWaySpell w = Tapes.of("sound p=aaaaaa|a|abcdef|ghijkl|mnopqr|stuvwx|yz;");
    w.mend(0);
    s.due("the greatest lower number", w.share(1), 10460353203L);
    s.due("its upper number", w.share(0), 1L + 4 * 27 + 14348907L + 387420489L);

    s.says(15, "NONE for another what");
    for (int what : new int[] {-1, 2, 3, MAX, MIN}) {
      s.due("what " + what, x.share(what), -1);
      s.due("without groups, what " + what, none.share(what), -1);
    }
  }
}
