import java.util.Objects;

/** For each promise of the document: ordinary inputs, the edges it names, and wrong inputs. */
public final class PromiseTest {
  private static final int MAX = Integer.MAX_VALUE;
  private static final int MIN = Integer.MIN_VALUE;
  /** The known example whose shortest doubtful word is abbcdebad. */
  private static final String LONG_DOUBT = "sound x = a | c | ad | abb | bad | deb | bbcde ;";
  private static int wrong = 0;
  private static int promise = 0;

  private static void due(String what, Object got, Object want) {
    if (got instanceof Integer) {
      got = (long) (Integer) got;
    }
    if (want instanceof Integer) {
      want = (long) (Integer) want;
    }
    if (!Objects.equals(got, want)) {
      wrong++;
      System.out.println("promise " + promise + ": " + what + " answered " + got + ", due is " + want);
    }
  }

  public static void main(String[] args) {
    newObject();
    feed();
    end();
    table();
    fault();
    faultPlaces();
    group();
    about();
    meets();
    parts();
    tails();
    tail();
    doubt();
    witness();
    look();
    share();
    word();
    letter();
    readings();
    reading();
    sounds();
    reads();
    took();
    fool();
    goes();
    spell();
    drawn();
    words();
    nth();
    place();
    borders();
    border();
    cure();
    mend();
    out();
    undo();
    undoKeepsTwelve();
    marksInDoubt();
    sevenLetters();
    System.out.println(wrong == 0 ? "every promise holds" : wrong + " answers are not as due");
    if (wrong != 0) {
      System.exit(1);
    }
  }

  private static void newObject() {
    promise = 1;
    OneWaySpell x = new OneWaySpell();
    due("sounds", x.about(0), 0);
    due("groups", x.about(1), 0);
    due("in", x.about(2), 0);
    due("K", x.about(3), 2);
    due("letters", x.about(4), 0);
    due("acts", x.about(5), 0);
    due("bytes", x.about(6), 0);
    due("group", x.group(0, 0), -1);
    due("NONE", OneWaySpell.NONE, -1);
  }

  private static void feed() {
    promise = 2;
    OneWaySpell x = new OneWaySpell();
    due("first", x.feed(0x61626364, 0x65666768, 0x696a6b6c, 0x6d6e6f70, 0x71727374), 20);
    due("end", x.end(20), 20);
    due("word", x.word(), 20);
    due("order", Tapes.theWord(x), "abcdefghijklmnopqrst");
    for (int i = 1; i <= 30; i++) {
      due("feed " + i, x.feed(-1, 0, MAX, MIN, 7), 20 * i);
    }
    due("full", x.feed(0, 0, 0, 0, 0), -1);
    due("bytes", x.about(6), 600);
    x.end(581);
    due("581 + 20", x.feed(0, 0, 0, 0, 0), -1);
    due("bytes then", x.about(6), 581);
    x.end(580);
    due("580 + 20", x.feed(0, 0, 0, 0, 0), 600);
  }

  private static void end() {
    promise = 3;
    OneWaySpell x = new OneWaySpell();
    due("end(0)", x.end(0), 0);
    due("end(1)", x.end(1), -1);
    x.feed(0x61616161, 0x62626262, 0, 0, 0);
    due("end(21)", x.end(21), -1);
    due("end(-1)", x.end(-1), -1);
    due("end(MIN)", x.end(MIN), -1);
    due("end(MAX)", x.end(MAX), -1);
    due("stays", x.about(6), 20);
    due("end(20)", x.end(20), 20);
    due("end(5)", x.end(5), 5);
    due("end(6)", x.end(6), -1);
    due("word", x.word(), 5);
    due("letters", Tapes.theWord(x), "aaaab");
  }

  private static void table() {
    promise = 4;
    OneWaySpell x = new OneWaySpell();
    due("three", Tapes.table(x, "sound a=b|c;sound b = d ;\n"), 3);
    due("tape", x.about(6), 0);
    due("sounds", x.about(0), 2);
    due("word", Tapes.word(x, "bcd"), 3);
    x.out(1, true);
    due("fault", Tapes.table(x, "sound a="), -1);
    due("tape at a fault", x.about(6), 0);
    due("groups stay", x.about(1), 3);
    due("out stays", x.about(2), 5);
    due("word stays", Tapes.theWord(x), "bcd");
    due("acts stay", x.about(5), 1);
    due("again", Tapes.table(x, "sound q = sound | x | yy;"), 3);
    due("a group sound", Tapes.group(x, 0), "sound");
    due("none out", x.about(2), 7);
    due("word is empty", x.about(4), 0);
    due("no acts", x.about(5), 0);
    due("no undo", x.undo(), false);
    due("empty text", x.table(), 0);
    due("no groups", x.about(1), 0);
    due("no sounds", x.about(0), 0);
    due("names and groups of five and six letters", Tapes.table(x, "sound abcde=abcde;sound abcdef=abcdef;"), 2);
    due("names that are groups, too", Tapes.table(x, "sound a=b;sound b=a;sound c=sound;"), 3);
    due("no blank", Tapes.table(x, "sound a=b;sound\nc=d|e;"), 3);
    due("blanks alone", Tapes.table(x, " \n \n"), 0);
    due("fourteen of six", Tapes.table(x, fourteen("")), 14);
    due("bits", x.about(2), 0x3fff);
    due("ten sounds", Tapes.table(x, lines(10)), 10);
  }

  private static String fourteen(String more) {
    StringBuilder b = new StringBuilder("sound a=");
    for (int i = 0; i < 14; i++) {
      b.append(i == 0 ? "" : "|").append("abcde").append((char) ('a' + i));
    }
    return b.append(more).append(';').toString();
  }

  private static String lines(int n) {
    StringBuilder b = new StringBuilder();
    for (int i = 0; i < n; i++) {
      char c = (char) ('a' + i);
      b.append("sound ").append(c).append('=').append(c).append(';');
    }
    return b.toString();
  }

  private static void fault() {
    promise = 5;
    OneWaySpell x = new OneWaySpell();
    due("ahead of any", x.fault(0), 0);
    due("its place", x.fault(1), -1);
    due("what 2", x.fault(2), -1);
    due("what -1", x.fault(-1), -1);
    Tapes.table(x, "sound a=b;");
    due("without", x.fault(0), 0);
    due("without, place", x.fault(1), -1);
    Tapes.table(x, "sound a=b|;");
    due("fault", x.fault(0), 2);
    due("place", x.fault(1), 10);
    due("what MAX", x.fault(MAX), -1);
    x.parts();
    due("stays", x.fault(0), 2);
    Tapes.table(x, "");
    due("then without", x.fault(0), 0);
    due("then without, place", x.fault(1), -1);
  }

  private static void faultIs(String text, int kind, int place) {
    OneWaySpell x = new OneWaySpell();
    due("table of " + text, Tapes.table(x, text), -1);
    due("fault of " + text, x.fault(0), kind);
    due("place in " + text, x.fault(1), place);
  }

  private static void faultPlaces() {
    faultIs("$", 1, 0);
    faultIs("sound A=b;", 1, 6);
    faultIs("sound a=b\t;", 1, 9);
    faultIs("sound a=b;" + (char) 0, 1, 10);
    faultIs("sound a=b;" + (char) 255, 1, 10);
    faultIs("sound a=b{;", 1, 9);
    faultIs("sound a=b`;", 1, 9);
    faultIs("sound a=b\r", 1, 9);
    faultIs("sounds a=b;", 2, 0);
    faultIs("soun a=b;", 2, 0);
    faultIs("sounda=b;", 2, 0);
    faultIs("a=b;", 2, 0);
    faultIs("sount a=b;", 2, 0);
    faultIs("abcde a=b;", 2, 0);
    faultIs(";", 2, 0);
    faultIs("sound sound=b;", 2, 6);
    faultIs("sound =b;", 2, 6);
    faultIs("sound abcdefg=b;", 2, 6);
    faultIs("sound abcdef b;", 2, 13);
    faultIs("sound a=abcdefg;", 2, 8);
    faultIs("sound a=abcdefg$", 2, 8);
    faultIs("sound a=;", 2, 8);
    faultIs("sound a=|b;", 2, 8);
    faultIs("sound a==b;", 2, 8);
    faultIs("sound a=b c;", 2, 10);
    faultIs("sound a=b=c;", 2, 9);
    faultIs("sound a=b;;", 2, 10);
    faultIs("sound a=b", 2, 9);
    faultIs("sound a=b  ", 2, 11);
    faultIs("sound", 2, 5);
    faultIs("sound a", 2, 7);
    faultIs("sound a=b|", 2, 10);
    faultIs("sound a=b; sound a=c;", 3, 17);
    faultIs("sound a=b; sound sound=c;", 2, 17);
    faultIs("sound a=b|c|b;", 3, 12);
    faultIs("sound a=b; sound c=b;", 3, 19);
    faultIs("sound a=b|b|$", 3, 10);
    faultIs(fourteen("|z"), 4, fourteen("|z").length() - 2);
    faultIs(fourteen("|abcdea"), 3, fourteen("").length());
    faultIs(fourteen("|abcdefg"), 2, fourteen("").length());
    faultIs(fourteen("|"), 2, fourteen("").length());
    faultIs(lines(10) + " sound k=k;", 4, lines(10).length() + 1);
    faultIs(lines(10) + "sounds", 2, lines(10).length());
    faultIs(lines(10) + "sound $", 4, lines(10).length());
  }

  private static void group() {
    promise = 6;
    OneWaySpell x = Tapes.of("sound p = ab | abcdef ; sound q = z ;");
    due("sound 0", x.group(1, 0), 0);
    due("sound 1", x.group(2, 0), 1);
    due("length", x.group(1, 1), 6);
    due("in", x.group(2, 2), 0);
    x.out(2, true);
    due("out", x.group(2, 2), 1);
    due("letter 0", x.group(1, 10), 97);
    due("letter 5", x.group(1, 15), 102);
    due("letter 6", x.group(1, 16), -1);
    due("letters when out", x.group(2, 10), 122);
    due("what 3", x.group(0, 3), -1);
    due("what 9", x.group(0, 9), -1);
    due("what -1", x.group(0, -1), -1);
    due("what MAX", x.group(0, MAX), -1);
    due("what MIN", x.group(0, MIN), -1);
    due("group 3", x.group(3, 0), -1);
    due("group -1", x.group(-1, 1), -1);
    due("group MAX", x.group(MAX, 2), -1);
  }

  private static void about() {
    promise = 7;
    OneWaySpell x = Tapes.of("sound p = ab | bc ; sound q = abc | d ; sound r = dd;");
    due("sounds", x.about(0), 3);
    due("groups", x.about(1), 5);
    due("in", x.about(2), 31);
    due("K", x.about(3), 4);
    due("begins", x.about(7), 0);
    due("ends", x.about(8), 0);
    x.out(2, true);
    due("in then", x.about(2), 27);
    due("K then", x.about(3), 4);
    due("d begins dd", x.about(7), 0);
    x.out(4, true);
    due("begins then", x.about(7), 1);
    due("ends then", x.about(8), 1);
    x.out(1, true);
    x.out(3, true);
    due("K of ab", x.about(3), 2);
    x.out(0, true);
    due("K of none", x.about(3), 2);
    due("none begins", x.about(7), 1);
    due("acts", x.about(5), 5);
    Tapes.word(x, "abz");
    due("letters", x.about(4), 3);
    x.feed(1, 2, 3, 4, 5);
    due("tape", x.about(6), 20);
    due("what 9", x.about(9), -1);
    due("what -1", x.about(-1), -1);
    due("what MAX", x.about(MAX), -1);
    OneWaySpell ends = Tapes.of("sound p = b | ab;");
    due("the first begins the last", Tapes.of("sound p=a|c|ab;").about(7), 0);
    due("the last begins the first", Tapes.of("sound p=ab|c|a;").about(7), 0);
    due("the first ends the last", Tapes.of("sound p=b|c|ab;").about(8), 0);
    due("the last ends the first", Tapes.of("sound p=ab|c|b;").about(8), 0);
    due("begins, ends alone", ends.about(7), 1);
    due("ends, ends alone", ends.about(8), 0);
    due("K of one letter", Tapes.of("sound p = a | aa;").about(3), 2);
    OneWaySpell marked = Tapes.of("sound p = a | aa;");
    marked.mend(0);
    due("K with the mark", marked.about(3), 2);
    OneWaySpell three = Tapes.of("sound p = a | b | ab;");
    three.mend(0);
    due("K of a, b and the mark", three.about(3), 3);
  }

  private static void meets() {
    promise = 8;
    OneWaySpell x = Tapes.of("sound p = abab | ba | aaa | ab | b;");
    due("abab, itself", x.meets(0, 0), 2);
    due("abab, ba", x.meets(0, 1), 1);
    due("aaa, b", x.meets(2, 4), 0);
    due("aaa, ba", x.meets(2, 1), 0);
    due("ba, abab", x.meets(1, 0), 1);
    due("aaa, itself", x.meets(2, 2), 2);
    due("ab, itself", x.meets(3, 3), 0);
    due("ab, ba", x.meets(3, 1), 1);
    due("abab, ab: fewer than either", x.meets(0, 3), 0);
    due("ab, b: fewer than either", x.meets(3, 4), 0);
    due("b, b", x.meets(4, 4), 0);
    x.out(0, true);
    due("out too", x.meets(1, 0), 1);
    due("5", x.meets(5, 0), -1);
    due("-1", x.meets(0, -1), -1);
    due("MAX", x.meets(MAX, MIN), -1);
  }

  private static void parts() {
    promise = 9;
    due("none", new OneWaySpell().parts(), 1);
    due("a ab b", Tapes.of("sound p=a|ab|b;").parts(), 0);
    due("a ab bb", Tapes.of("sound p=a|ab|bb;").parts(), 1);
    due("long doubt", Tapes.of(LONG_DOUBT).parts(), 0);
    due("one sound is no help", Tapes.of("sound p=a;sound q=aa;").parts(), 0);
    OneWaySpell x = Tapes.of("sound p=a|ab|b;");
    x.out(1, true);
    due("without ab", x.parts(), 1);
    x.undo();
    due("with ab again", x.parts(), 0);
    x.mend(0);
    due("mended", x.parts(), 1);
  }

  private static void tails() {
    promise = 10;
    OneWaySpell x = Tapes.of(LONG_DOUBT);
    due("rounds", x.tails(-1), 5);
    due("round 1", x.tails(1), 2);
    due("round 2", x.tails(2), 2);
    due("round 3", x.tails(3), 1);
    due("round 5", x.tails(5), 2);
    due("round 6", x.tails(6), 0);
    due("round 0", x.tails(0), 0);
    due("round -2", x.tails(-2), 0);
    due("round MAX", x.tails(MAX), 0);
    due("round MIN", x.tails(MIN), 0);
    due("no group", new OneWaySpell().tails(-1), 0);
    OneWaySpell y = Tapes.of("sound p = a|ab|b|ba;");
    due("no tail twice", y.tails(-1), 1);
    OneWaySpell z = Tapes.of("sound p = a|ab|b|x|xd|de;");
    due("doubt in round 1", z.doubt(), 1);
    due("rounds go on behind doubt", z.tails(-1), 2);
    due("round 1", Tapes.tails(z, 1), "b d");
    due("round 2 behind doubt", Tapes.tails(z, 2), "e");
  }

  private static void tail() {
    promise = 11;
    OneWaySpell x = Tapes.of(LONG_DOUBT);
    due("round 1", Tapes.tails(x, 1), "bb d");
    due("round 2", Tapes.tails(x, 2), "cde eb");
    due("round 3", Tapes.tails(x, 3), "de");
    due("round 4", Tapes.tails(x, 4), "b");
    due("round 5", Tapes.tails(x, 5), "ad bcde");
    due("round 6", x.tail(6, 0, 0), -1);
    due("round 0", x.tail(0, 0, 0), -1);
    due("round -1", x.tail(-1, 0, 0), -1);
    due("tail 2", x.tail(1, 2, 0), -1);
    due("tail -1", x.tail(1, -1, 0), -1);
    due("letter 1", x.tail(1, 0, 1), 98);
    due("letter 2", x.tail(1, 0, 2), -1);
    due("letter -1", x.tail(1, 0, -1), -1);
    due("all MAX", x.tail(MAX, MAX, MAX), -1);
    due("all MIN", x.tail(MIN, MIN, MIN), -1);
    due("a shorter one first", Tapes.tails(Tapes.of("sound p = a|ab|abb|aa;"), 1), "a b bb");
  }

  private static void doubt() {
    promise = 12;
    due("round 5", Tapes.of(LONG_DOUBT).doubt(), 5);
    due("round 1", Tapes.of("sound p=a|ab|b;").doubt(), 1);
    due("it does not", Tapes.of("sound p=a|ab|bb;").doubt(), -1);
    due("no group", new OneWaySpell().doubt(), -1);
    due("one group", Tapes.of("sound p=aa;").doubt(), -1);
  }

  private static void witness() {
    promise = 13;
    OneWaySpell x = Tapes.of(LONG_DOUBT);
    due("letters", x.witness(), 9);
    due("word", Tapes.theWord(x), "abbcdebad");
    due("readings", x.readings(), 2L);
    OneWaySpell y = Tapes.of("sound p=b|bb|a|aa;");
    due("two", y.witness(), 2);
    due("of like ones the first", Tapes.theWord(y), "aa");
    OneWaySpell z = Tapes.of("sound p=a|ab|bb;");
    Tapes.word(z, "xyz");
    due("it parts", z.witness(), -1);
    due("the word stays", Tapes.theWord(z), "xyz");
    due("no group", new OneWaySpell().witness(), -1);
    OneWaySpell first = Tapes.of("sound p=ba|bab|ab|b|c|bc;");
    due("first as in a dictionary", first.witness(), 2);
    due("bc", Tapes.theWord(first), "bc");
  }

  private static void look() {
    promise = 14;
    due("no group", new OneWaySpell().look(), 0);
    due("one", Tapes.of("sound p=abc;").look(), 0);
    due("a, b", Tapes.of("sound p=a|b;").look(), 0);
    due("abc, abd", Tapes.of("sound p=abc|abd;").look(), 2);
    due("a, ab", Tapes.of("sound p=a|ab;").look(), 1);
    due("no bound", Tapes.of("sound p=a|ab|bb;").look(), -1);
    due("does not part", Tapes.of("sound p=a|ab|b;").look(), -1);
    // ab cd.. against abc e..: abc and no more; abc dd.. against ab cdd..: abcdd and then d against none that is like
    due("ab, abc, cde, dx", Tapes.of("sound p=ab|abc|cde|dx;").look(), 4);
    OneWaySpell x = Tapes.of("sound p=a|ab|bb;");
    x.out(0, true);
    due("without a", x.look(), 0);
  }

  private static void share() {
    promise = 15;
    OneWaySpell x = Tapes.of("sound p=a|ba|bb;");
    due("upper", x.share(0), 1L);
    due("lower", x.share(1), 1L);
    x.out(0, true);
    due("two of four, upper", x.share(0), 1L);
    due("two of four, lower", x.share(1), 2L);
    due("what 2", x.share(2), -1L);
    due("what -1", x.share(-1), -1L);
    due("none, upper", new OneWaySpell().share(0), 0L);
    due("none, lower", new OneWaySpell().share(1), 1L);
    OneWaySpell y = Tapes.of("sound p=a|b|c|ab|abc;");
    due("1 + 1/9 + 1/27, upper", y.share(0), 31L);
    due("1 + 1/9 + 1/27, lower", y.share(1), 27L);
    OneWaySpell z = Tapes.of("sound p=abcdef|ghijkl|mnopqr|stuvwx|yz|aaaaaa;");
    due("26 letters, lower", z.share(1), 308915776L);
    due("26 letters, upper", z.share(0), 456976L + 5);
    z.out(5, true);
    z.out(5, false);
    due("again", z.share(0), 456981L);
  }

  private static void word() {
    promise = 16;
    OneWaySpell x = Tapes.of("sound p=a;");
    due("three", Tapes.word(x, "azb"), 3);
    due("tape", x.about(6), 0);
    due("the mark", Tapes.word(x, "a{"), 2);
    due("letters", Tapes.theWord(x), "a{");
    String forty = "abcdefghijabcdefghijabcdefghijabcdefghij";
    due("forty one", Tapes.word(x, forty + "a"), -1);
    due("tape then", x.about(6), 0);
    due("stays", Tapes.theWord(x), "a{");
    due("blank", Tapes.word(x, "a b"), -1);
    due("96", Tapes.word(x, "`"), -1);
    due("124", Tapes.word(x, "|"), -1);
    due("225", Tapes.word(x, "" + (char) 225), -1);
    due("0", Tapes.word(x, "" + (char) 0), -1);
    due("stays still", Tapes.theWord(x), "a{");
    due("forty", Tapes.word(x, forty), 40);
    due("all forty", Tapes.theWord(x), forty);
    due("none", x.word(), 0);
    due("empty", x.about(4), 0);
  }

  private static void letter() {
    promise = 17;
    OneWaySpell x = Tapes.of("sound p=a;");
    due("empty", x.letter(0), -1);
    Tapes.word(x, "xy{");
    due("0", x.letter(0), 120);
    due("2", x.letter(2), 123);
    due("3", x.letter(3), -1);
    due("-1", x.letter(-1), -1);
    due("MAX", x.letter(MAX), -1);
    due("MIN", x.letter(MIN), -1);
  }

  private static void readings() {
    promise = 18;
    OneWaySpell x = Tapes.of("sound p=a|aa|b;");
    due("empty", x.readings(), 1L);
    Tapes.word(x, "aaaa");
    due("aaaa", x.readings(), 5L);
    Tapes.word(x, "c");
    due("c", x.readings(), 0L);
    Tapes.word(x, "aabaa");
    due("aabaa", x.readings(), 4L);
    x.out(1, true);
    due("without aa", x.readings(), 1L);
    x.undo();
    Tapes.word(x, "a".repeat(40));
    due("forty", x.readings(), 165580141L);
    OneWaySpell y = Tapes.of("sound p=a|aa|aaa|aaaa|aaaaa|aaaaaa;");
    Tapes.word(y, "a".repeat(40));
    long[] ways = new long[41];
    ways[0] = 1;
    for (int n = 1; n <= 40; n++) {
      for (int k = 1; k <= 6 && k <= n; k++) {
        ways[n] += ways[n - k];
      }
    }
    due("more than an int", y.readings(), ways[40]);
    due("none", new OneWaySpell().readings(), 1L);
  }

  private static void reading() {
    promise = 19;
    OneWaySpell x = Tapes.of("sound p=aa|a|b;");
    due("empty", x.reading(0, 0), -1);
    Tapes.word(x, "aaab");
    due("0", Tapes.reading(x, 0), "0 1 2");
    due("1", Tapes.reading(x, 1), "1 0 2");
    due("2", Tapes.reading(x, 2), "1 1 1 2");
    due("3", x.reading(3, 0), -1);
    due("-1", x.reading(-1, 0), -1);
    due("k 3", x.reading(0, 3), -1);
    due("k -1", x.reading(0, -1), -1);
    due("MAX", x.reading(MAX, MAX), -1);
    due("MIN", x.reading(MIN, MIN), -1);
    due("i 0, k MAX", x.reading(0, MAX), -1);
    Tapes.word(x, "ac");
    due("none", x.reading(0, 0), -1);
    OneWaySpell y = Tapes.of("sound p=a|aa|aaa|aaaa|aaaaa|aaaaaa;");
    Tapes.word(y, "a".repeat(40));
    due("first of many", y.reading(0, 39), 0);
    due("MAX of many", y.reading(MAX, 0), 0);
  }

  private static void sounds() {
    promise = 20;
    OneWaySpell x = Tapes.of("sound p=a|ab;sound q=b|bc;sound r=c;");
    due("empty", x.sounds(), 1);
    Tapes.word(x, "a");
    due("one reading", x.sounds(), 1);
    Tapes.word(x, "abc");
    // a b c, a bc, ab c: p q r and p q
    due("unlike", x.sounds(), 2);
    Tapes.word(x, "d");
    due("none", x.sounds(), 0);
    x.out(4, true);
    x.out(2, true);
    Tapes.word(x, "abc");
    due("without b and c: a bc", x.sounds(), 1);
    OneWaySpell y = Tapes.of("sound p=a|ab;sound q=bc|c;");
    Tapes.word(y, "abc");
    due("alike rows of two readings", y.sounds(), 1);
    due("two readings", y.readings(), 2L);
    OneWaySpell z = Tapes.of("sound p=a|aa;");
    Tapes.word(z, "aaa");
    // a a a, a aa, aa a: the first two are of unlike lengths
    due("unlike lengths", z.sounds(), 2);
    OneWaySpell w = Tapes.of("sound p=aa|a;sound q=b;");
    Tapes.word(w, "aaab");
    // 0 1 2, 1 0 2, 1 1 1 2: the third does not count
    due("the first two alone", w.sounds(), 1);
  }

  private static void reads() {
    promise = 21;
    OneWaySpell x = Tapes.of("sound p=ab|a|abc|cd|c;");
    due("empty", x.reads(0), 0);
    Tapes.word(x, "abcd");
    due("longest fails", x.reads(0), -1);
    due("shortest fails", x.reads(1), -1);
    due("least number", x.reads(2), 2);
    due("kind 3", x.reads(3), -2);
    due("kind -1", x.reads(-1), -2);
    due("kind MAX", x.reads(MAX), -2);
    due("kind MIN", x.reads(MIN), -2);
    Tapes.word(x, "abca");
    due("longest", x.reads(0), 2);
    due("least number, 0 4 1", x.reads(2), 3);
    due("none", new OneWaySpell().reads(2), 0);
  }

  private static void took() {
    promise = 22;
    OneWaySpell x = Tapes.of("sound p=ab|a|abc|cd|c;");
    due("empty", x.took(0, 0), -1);
    Tapes.word(x, "abcd");
    due("longest", Tapes.taken(x, 0), "2");
    due("shortest", Tapes.taken(x, 1), "1");
    due("least number", Tapes.taken(x, 2), "0 3");
    due("k 2", x.took(2, 2), -1);
    due("k -1", x.took(2, -1), -1);
    due("k MAX", x.took(2, MAX), -1);
    due("kind 3", x.took(3, 0), -1);
    due("kind -1", x.took(-1, 0), -1);
    Tapes.word(x, "ab");
    due("within the word", Tapes.taken(x, 0), "0");
    x.out(0, true);
    due("out", Tapes.taken(x, 0), "1");
  }

  private static void fool() {
    promise = 23;
    OneWaySpell x = Tapes.of("sound p=a|ab|bb;");
    due("longest", x.fool(0), 3);
    due("abb", Tapes.theWord(x), "abb");
    due("shortest", x.fool(1), 2);
    due("ab", Tapes.theWord(x), "ab");
    due("least number", x.fool(2), 2);
    due("ab too", Tapes.theWord(x), "ab");
    Tapes.word(x, "q");
    due("kind 3", x.fool(3), -2);
    due("kind -1", x.fool(-1), -2);
    due("stays", Tapes.theWord(x), "q");
    OneWaySpell y = Tapes.of("sound p=a|ba|bb;");
    Tapes.word(y, "q");
    due("none", y.fool(0), -1);
    due("none of 1", y.fool(1), -1);
    due("none of 2", y.fool(2), -1);
    due("stays too", Tapes.theWord(y), "q");
    OneWaySpell z = Tapes.of("sound p=a|ab;");
    due("longest is right there", z.fool(0), -1);
    due("no group", new OneWaySpell().fool(0), -1);
    OneWaySpell w = Tapes.of("sound p=ab|a|bcd|bcc;");
    due("as in a dictionary", w.fool(0), 4);
    due("abcc", Tapes.theWord(w), "abcc");
  }

  private static void goes() {
    promise = 24;
    OneWaySpell x = Tapes.of("sound p=ab|abc|dda;");
    due("empty", x.goes(), 0);
    Tapes.word(x, "abcddq");
    due("abcdd", x.goes(), 5);
    Tapes.word(x, "abddaa");
    due("all", x.goes(), 6);
    Tapes.word(x, "abddab");
    due("but the last", x.goes(), 5);
    Tapes.word(x, "abca");
    due("open at the end", x.goes(), 4);
    Tapes.word(x, "q");
    due("none", x.goes(), 0);
    x.out(1, true);
    Tapes.word(x, "abcd");
    due("without abc", x.goes(), 2);
    OneWaySpell y = new OneWaySpell();
    Tapes.word(y, "abc");
    due("no group", y.goes(), 0);
  }

  private static void spell() {
    promise = 25;
    OneWaySpell x = Tapes.of("sound p=a|ab|abb;sound q=b|bb|cc;");
    due("p", x.spell(0, -1, -1, -1), 1);
    due("a", Tapes.theWord(x), "a");
    // a b, a bb, ab b, ab bb and abb b can be read otherwise; a cc can't
    due("p q", x.spell(0, 1, -1, -1), 3);
    due("acc", Tapes.theWord(x), "acc");
    due("q p", x.spell(1, 0, -1, -1), 2);
    due("ba", Tapes.theWord(x), "ba");
    due("four", x.spell(0, 0, 0, 0), 4);
    due("aaaa", Tapes.theWord(x), "aaaa");
    due("no first", x.spell(-1, 0, -1, -1), -1);
    due("none at all", x.spell(-1, -1, -1, -1), -1);
    due("NONE ahead of one", x.spell(0, -1, 1, -1), -1);
    due("NONE ahead of the last", x.spell(0, 1, -1, 1), -1);
    due("sound 2", x.spell(0, 2, -1, -1), -1);
    due("sound -2", x.spell(0, -2, -1, -1), -1);
    due("sound MAX", x.spell(MAX, -1, -1, -1), -1);
    due("stays", Tapes.theWord(x), "aaaa");
    x.out(5, true);
    due("p q without cc", x.spell(0, 1, -1, -1), -1);
    x.out(0, true);
    x.out(1, true);
    x.out(2, true);
    due("p without its groups", x.spell(0, -1, -1, -1), -1);
    OneWaySpell y = Tapes.of("sound p=b|a;");
    y.spell(0, 0, -1, -1);
    due("first as a row of numbers", Tapes.theWord(y), "bb");
  }

  private static void drawn() {
    promise = 26;
    OneWaySpell x = Tapes.of("sound p=a|bc|def;sound q=gg;");
    int seed = 12345;
    StringBuilder want = new StringBuilder();
    String[] groups = {"a", "bc", "def", "gg"};
    for (int i = 0; i < 5; i++) {
      seed = seed * 1103515245 + 12345;
      want.append(groups[(seed >>> 16) % 4]);
    }
    due("five", x.drawn(12345, 5), want.length());
    due("word", Tapes.theWord(x), want.toString());
    due("n 0", x.drawn(1, 0), -1);
    due("n 6", x.drawn(1, 6), -1);
    due("n MIN", x.drawn(1, MIN), -1);
    due("stays", Tapes.theWord(x), want.toString());
    x.out(1, true);
    String[] left = {"a", "def", "gg"};
    for (int s = -40; s < 40; s++) {
      int next = s * 1103515245 + 12345;
      String w = left[(next >>> 16) % 3];
      due("one of three", x.drawn(s, 1), w.length());
      due("by number", Tapes.theWord(x), w);
    }
    due("no group", new OneWaySpell().drawn(5, 1), -1);
  }

  private static void words() {
    promise = 27;
    OneWaySpell x = Tapes.of("sound p=a|ab|b;");
    due("0 letters", x.words(0, 0), 1L);
    due("0 letters, one", x.words(0, 1), 1L);
    due("0 letters, doubtful", x.words(0, 2), 0L);
    due("2 letters", x.words(2, 0), 4L);
    due("2 letters, one", x.words(2, 1), 3L);
    due("2 letters, doubtful", x.words(2, 2), 1L);
    // only b..ba..a has no ab in it
    due("10 letters", x.words(10, 0), 1024L);
    due("10 letters, one", x.words(10, 1), 11L);
    due("10 letters, doubtful", x.words(10, 2), 1013L);
    due("11", x.words(11, 0), -1L);
    due("-1", x.words(-1, 0), -1L);
    due("what 3", x.words(1, 3), -1L);
    due("what -1", x.words(1, -1), -1L);
    due("MAX", x.words(MAX, MIN), -1L);
    x.out(2, true);
    // no b but behind an a: Fibonacci's numbers
    due("without b", x.words(10, 0), 89L);
    due("without b, one", x.words(10, 1), 89L);
    StringBuilder b = new StringBuilder("sound p=a");
    for (char c = 'b'; c < 'o'; c++) {
      b.append('|').append(c);
    }
    due("fourteen letters", Tapes.of(b.append(';').toString()).words(10, 1), 289254654976L);
    due("none", new OneWaySpell().words(3, 0), 0L);
  }

  private static void nth() {
    promise = 28;
    OneWaySpell x = Tapes.of("sound p=a|ab|bb;");
    String[] want = {"aaa", "aab", "aba", "abb", "bba"};
    for (int k = 0; k < want.length; k++) {
      due("is " + k, x.nth(3, k), true);
      due("word " + k, Tapes.theWord(x), want[k]);
    }
    due("5", x.nth(3, 5), false);
    due("-1", x.nth(3, -1), false);
    due("MAX", x.nth(3, Long.MAX_VALUE), false);
    due("MIN", x.nth(3, Long.MIN_VALUE), false);
    due("n 11", x.nth(11, 0), false);
    due("n -1", x.nth(-1, 0), false);
    due("n MAX", x.nth(MAX, 0), false);
    due("stays", Tapes.theWord(x), "bba");
    due("n 0, 1", x.nth(0, 1), false);
    due("n 0", x.nth(0, 0), true);
    due("empty", x.about(4), 0);
    due("last of ten", x.nth(10, x.words(10, 0) - 1), true);
    due("bbbbbbbbbb", Tapes.theWord(x), "bbbbbbbbbb");
  }

  private static void place() {
    promise = 29;
    OneWaySpell x = Tapes.of("sound p=a|ab|bb;");
    due("empty", x.place(), 0L);
    String[] want = {"aaa", "aab", "aba", "abb", "bba"};
    for (int k = 0; k < want.length; k++) {
      Tapes.word(x, want[k]);
      due(want[k], x.place(), k);
    }
    Tapes.word(x, "bab");
    due("no reading", x.place(), -1L);
    Tapes.word(x, "aac");
    due("another letter", x.place(), -1L);
    Tapes.word(x, "b");
    due("only a beginning", x.place(), -1L);
    Tapes.word(x, "aaaaaaaaaaa");
    due("eleven", x.place(), -1L);
    Tapes.word(x, "bbbbbbbbbb");
    due("the last of ten", x.place(), x.words(10, 0) - 1);
  }

  private static void borders() {
    promise = 30;
    due("no group", new OneWaySpell().borders(1), 0);
    OneWaySpell x = Tapes.of("sound p=a|ba|bb;");
    due("1", Tapes.borders(x, 1), "a");
    // b is open or closed, and so is bb; but behind a it is open
    due("2", Tapes.borders(x, 2), "");
    due("3: a b b", Tapes.borders(x, 3), "abb");
    due("4", Tapes.borders(x, 4), "");
    due("0", x.borders(0), -1);
    due("5", x.borders(5), -1);
    due("MAX", x.borders(MAX), -1);
    due("MIN", x.borders(MIN), -1);
    x.out(2, true);
    due("then only a", x.borders(1), 1);
    due("then only a, 3", x.borders(3), 0);
    due("each letter", Tapes.borders(Tapes.of("sound p=c|a;"), 1), "a c");
    due("all alike", Tapes.borders(Tapes.of("sound p=abc;"), 1), "c");
    due("not above it", Tapes.borders(Tapes.of("sound p=abc;"), 2), "");
    OneWaySpell y = Tapes.of("sound p=ab|ba;");
    due("ab, ba: 1", Tapes.borders(y, 1), "");
    due("ab, ba: 2", Tapes.borders(y, 2), "");
    due("ab, ba: 3", Tapes.borders(y, 3), "aab bba");
    due("ab, ba: 4", Tapes.borders(y, 4), "");
  }

  private static void border() {
    promise = 31;
    OneWaySpell x = Tapes.of("sound p=ab|ba;");
    due("3, 0, 2", x.border(3, 0, 2), 98);
    due("3, 1, 0", x.border(3, 1, 0), 98);
    due("3, 1, 2", x.border(3, 1, 2), 97);
    due("3, 1, 3", x.border(3, 1, 3), -1);
    due("3, 1, -1", x.border(3, 1, -1), -1);
    due("3, 2, 0", x.border(3, 2, 0), -1);
    due("3, -1, 0", x.border(3, -1, 0), -1);
    due("0", x.border(0, 0, 0), -1);
    due("5", x.border(5, 0, 0), -1);
    due("MAX", x.border(MAX, MAX, MAX), -1);
    due("MIN", x.border(MIN, MIN, MIN), -1);
    x.mend(0);
    OneWaySpell y = Tapes.of("sound p=a|ab|b;");
    y.mend(0);
    due("a border of the mark", Tapes.borders(y, 1).contains("{"), true);
  }

  private static void cure() {
    promise = 32;
    due("no group", new OneWaySpell().cure(0), 0);
    OneWaySpell x = Tapes.of("sound p=a|ab|b;");
    due("behind: a{ ab b", x.cure(0), 1);
    due("ahead: {a ab b", x.cure(1), 1);
    due("out: a", x.cure(2), 1);
    due("way 3", x.cure(3), -1);
    due("way -1", x.cure(-1), -1);
    due("way MAX", x.cure(MAX), -1);
    due("nothing is done", x.parts(), 0);
    due("no act", x.about(5), 0);
    OneWaySpell y = Tapes.of("sound p=a|ab|bb;");
    due("parts now", y.cure(2), 0);
    OneWaySpell z = Tapes.of("sound p=a|aa|aaa;");
    due("behind: two of them", z.cure(0), 3);
    due("out: two of them", z.cure(2), 3);
  }

  private static void mend() {
    promise = 33;
    OneWaySpell x = Tapes.of("sound p=a|ab|b;");
    Tapes.word(x, "ab");
    due("way 3", x.mend(3), -1);
    due("way -1", x.mend(-1), -1);
    due("behind", x.mend(0), 1);
    due("a{", Tapes.group(x, 0), "a{");
    due("letter", x.group(0, 11), 123);
    due("an act", x.about(5), 1);
    due("the word stays", Tapes.theWord(x), "ab");
    due("parts now", x.mend(0), -1);
    due("no more acts", x.about(5), 1);
    OneWaySpell y = Tapes.of("sound p=a|ab|b;");
    due("ahead", y.mend(1), 1);
    due("{a", Tapes.group(y, 0), "{a");
    OneWaySpell z = Tapes.of("sound p=a|aa|aaa;");
    due("out", z.mend(2), 2);
    due("bits", z.about(2), 4);
    due("one act", z.about(5), 1);
    due("parts", z.parts(), 1);
    due("no group", new OneWaySpell().mend(0), -1);
  }

  private static void out() {
    promise = 34;
    OneWaySpell x = Tapes.of("sound p=a|ab|b;");
    due("in already", x.out(0, false), false);
    due("out", x.out(0, true), true);
    due("out already", x.out(0, true), false);
    due("one act", x.about(5), 1);
    due("in again", x.out(0, false), true);
    due("two acts", x.about(5), 2);
    due("group 3", x.out(3, true), false);
    due("group -1", x.out(-1, true), false);
    due("group 32", x.out(32, true), false);
    due("group MAX", x.out(MAX, false), false);
    due("group MIN", x.out(MIN, true), false);
    due("bits", x.about(2), 7);
    due("still two", x.about(5), 2);
  }

  private static void undo() {
    promise = 35;
    due("none", new OneWaySpell().undo(), false);
    OneWaySpell x = Tapes.of("sound p=a|ab|b;");
    x.out(2, true);
    x.out(2, false);
    x.mend(0);
    due("marked", Tapes.group(x, 0), "a{");
    Tapes.word(x, "aba");
    due("undo the mark", x.undo(), true);
    due("a", Tapes.group(x, 0), "a");
    due("undo in", x.undo(), true);
    due("out", x.about(2), 3);
    due("undo out", x.undo(), true);
    due("in", x.about(2), 7);
    due("no more", x.undo(), false);
    due("the word stays", Tapes.theWord(x), "aba");
    x.mend(1);
    due("{a", Tapes.group(x, 0), "{a");
    due("undo ahead", x.undo(), true);
    due("a again", Tapes.group(x, 0), "a");
    OneWaySpell z = Tapes.of("sound p=a|aa|aaa;");
    z.mend(2);
    due("undo of two", z.undo(), true);
    due("all in", z.about(2), 7);
  }

  private static void undoKeepsTwelve() {
    OneWaySpell x = Tapes.of("sound p=a|b;");
    for (int i = 0; i < 15; i++) {
      x.out(0, i % 2 == 0);
    }
    due("twelve", x.about(5), 12);
    for (int i = 0; i < 12; i++) {
      due("undo " + i, x.undo(), true);
    }
    due("no thirteenth", x.undo(), false);
    due("behind three: out", x.group(0, 2), 1);
    x.out(0, false);
    due("a new one", x.about(5), 1);
  }

  /** Marks that were needed once can be in doubt when other groups come in: a{ and xa{ and x. */
  private static void marksInDoubt() {
    OneWaySpell x = Tapes.of("sound p = a | xa ; sound q = ab | b | xab ; sound r = x ;");
    x.out(1, true);
    x.out(4, true);
    x.out(5, true);
    promise = 33;
    due("a is marked", x.mend(0), 1);
    x.out(2, true);
    x.out(1, false);
    x.out(4, false);
    due("xa is marked", x.mend(0), 1);
    due("xa{", Tapes.group(x, 1), "xa{");
    x.out(3, true);
    x.out(4, true);
    x.out(5, false);
    promise = 7;
    due("in", x.about(2), 35);
    due("K", x.about(3), 3);
    promise = 8;
    due("x, a{", x.meets(5, 0), 0);
    due("xa{, a{", x.meets(1, 0), 0);
    promise = 11;
    due("tails", Tapes.tails(x, 1), "a{");
    due("the mark", x.tail(1, 0, 1), 123);
    promise = 13;
    due("witness", x.witness(), 3);
    due("xa{", Tapes.theWord(x), "xa{");
    due("its mark", x.letter(2), 123);
    promise = 18;
    due("readings", x.readings(), 2L);
    promise = 19;
    due("first", Tapes.reading(x, 0), "1");
    due("second", Tapes.reading(x, 1), "5 0");
    promise = 15;
    due("1/9 + 1/27 + 1/3, upper", x.share(0), 13L);
    due("1/9 + 1/27 + 1/3, lower", x.share(1), 27L);
    promise = 23;
    due("fool by the longest", x.fool(0), 3);
    due("xa{", Tapes.theWord(x), "xa{");
    promise = 27;
    due("a{x, xa{, xxx", x.words(3, 0), 3L);
    due("doubtful", x.words(3, 2), 1L);
    promise = 28;
    due("nth", x.nth(3, 1), true);
    due("xa{", Tapes.theWord(x), "xa{");
    promise = 29;
    due("place", x.place(), 1L);
    promise = 31;
    due("borders", Tapes.borders(x, 1), "{");
    promise = 35;
    for (int i = 0; i < 10; i++) {
      due("undo", x.undo(), true);
    }
    due("the first act too", x.about(2), 63 - 2);
    due("a", Tapes.group(x, 0), "a");
    due("xa", Tapes.group(x, 1), "xa");
  }

  /** A group of six letters and the mark: the longest words that spell() and drawn() can make; it can't be marked again. */
  private static void sevenLetters() {
    OneWaySpell x = Tapes.of("sound p = aaaaaa ; sound q = a | aa ;");
    x.out(2, true);
    promise = 32;
    due("the first one", x.cure(0), 1);
    promise = 33;
    due("marked", x.mend(0), 1);
    due("seven letters", x.group(0, 1), 7);
    x.out(1, true);
    promise = 25;
    due("28 letters", x.spell(0, 0, 0, 0), 28);
    due("all of them", Tapes.theWord(x), "aaaaaa{".repeat(4));
    due("its reading", x.readings(), 1L);
    promise = 26;
    due("35 letters", x.drawn(0, 5), 35);
    due("all of these", Tapes.theWord(x), "aaaaaa{".repeat(5));
    due("five groups", Tapes.taken(x, 0), "0 0 0 0 0");
    promise = 16;
    due("read from the tape", Tapes.word(x, "aaaaaa{".repeat(5)), 35);
    promise = 15;
    due("lower number of 7 letters", x.share(1), 128L);
    x.out(1, false);
    x.out(2, false);
    promise = 32;
    // a and aa are in doubt; aaaaaa{ has seven letters
    due("not the one of seven letters, behind", x.cure(0), 2);
    due("not the one of seven letters, ahead", x.cure(1), 2);
    due("not the one of seven letters, out", x.cure(2), 2);
  }
}
