import java.io.IOException;

/** The edges of the tape, the table, its faults, and what is told of groups: promises 1 to 8 and their terms. */
public final class TellEdgeTest {
  private static final int MAX = Integer.MAX_VALUE;
  private static final int MIN = Integer.MIN_VALUE;
  private static final int T = Sentences.TERMS;
  private static Sentences s;

  public static void main(String[] args) throws IOException {
    s = new Sentences();
    newObject();
    feed();
    end();
    tableIsTaken();
    tableIsRefused();
    fault();
    textsOf600();
    names();
    rows();
    manySounds();
    manyGroups();
    tokens();
    faultPlaces();
    leastFault();
    group();
    about();
    letters();
    meets();
    s.finish(1, 8);
  }

  private static void newObject() {
    s.says(1, "No SOUNDS, no GROUPS.");
    OneWaySpell other = Tapes.of("sound p=a|b;");
    other.feed(1, 2, 3, 4, 5);
    OneWaySpell x = new OneWaySpell();
    due(x, "about", 0, 0, 0, 2, 0, 0, 0, 1, 1, -1);
    s.due("group", x.group(0, 0), -1);
    s.due("meets", x.meets(0, 0), -1);
    s.due("the other one has its own", other.about(1), 2);

    s.says(T, "`NONE = -1`");
    s.due("NONE", OneWaySpell.NONE, -1);
  }

  /** What about() answers, from 0 on. */
  private static void due(OneWaySpell x, String what, int... want) {
    for (int i = 0; i < want.length; i++) {
      s.due(what + " " + i, x.about(i), want[i]);
    }
  }

  private static void feed() {
    s.says(2, "Twenty bytes come behind those on the TAPE, of each number the highest first: how many there are");
    OneWaySpell x = new OneWaySpell();
    s.due("first", x.feed(0x61626364, 0x65666768, 0x696a6b6c, 0x6d6e6f70, 0x71727374), 20);
    s.due("second", x.feed(0x7a797877, 0x76757473, 0x7271706f, 0x6e6d6c6b, 0x6a696867), 40);
    s.due("word", x.word(), 40);
    s.due("in order", Tapes.theWord(x), "abcdefghijklmnopqrstzyxwvutsrqponmlkjihg");
    s.due("bytes above 127", x.feed(0x20202080, 0xff202020, -1, MIN, MAX), 20);
    s.due("no table", x.table(), -1);
    s.due("byte 128 is the fourth", x.fault(1), 3);
    x.feed(0x20202020, 0xff202020, 0, 0, 0);
    x.table();
    s.due("byte 255 is the fifth", x.fault(1), 4);

    s.says(2, "NONE, and nothing comes, if there would be more than 600");
    OneWaySpell y = new OneWaySpell();
    for (int i = 1; i <= 29; i++) {
      y.feed(0x20202020, 0x20202020, 0x20202020, 0x20202020, 0x20202020);
    }
    s.due("580", y.about(6), 580);
    s.due("just 600", y.feed(0x736f756e, 0x64206120, 0x3d207a3b, 0x20202020, 0x20202020), 600);
    s.due("one more", y.feed(-1, -1, -1, -1, -1), -1);
    s.due("still 600", y.about(6), 600);
    s.due("and nothing of it", y.table(), 1);
    fill(y, 581, "sound a = b ;");
    s.due("581 and 20", y.feed(-1, -1, -1, -1, -1), -1);
    s.due("still 581", y.about(6), 581);
    s.due("not one byte came", y.end(582), -1);
    s.due("a table still", y.table(), 1);
    fill(y, 599, "sound a = b ;");
    s.due("599 and 20", y.feed(-1, -1, -1, -1, -1), -1);
    s.due("still 599", y.about(6), 599);
    y.end(580);
    s.due("580 and 20", y.feed(0x20202020, 0x20202020, 0x20202020, 0x20202020, 0x20202020), 600);
    s.due("what came is at its place", y.table(), 1);
    s.due("an empty tape has room", y.feed(0, 0, 0, 0, 0), 20);
  }

  /** A text and blanks behind it up to n bytes. */
  private static void fill(OneWaySpell x, int n, String text) {
    Tapes.put(x, text + " ".repeat(n - text.length()));
  }

  private static void end() {
    s.says(3, "The TAPE has its first n bytes: n");
    OneWaySpell x = new OneWaySpell();
    s.due("0 of 0", x.end(0), 0);
    x.feed(0x61626364, 0x65666768, 0x696a6b6c, 0x6d6e6f70, 0x71727374);
    s.due("all", x.end(20), 20);
    s.due("all but one", x.end(19), 19);
    s.due("bytes", x.about(6), 19);
    s.due("one", x.end(1), 1);
    s.due("behind it", x.feed(0x7a7a7a7a, 0x7a7a7a7a, 0x7a7a7a7a, 0x7a7a7a7a, 0x7a7a7a7a), 21);
    x.word();
    s.due("what was cut is gone", Tapes.theWord(x), "azzzzzzzzzzzzzzzzzzzz");
    x.feed(0, 0, 0, 0, 0);
    s.due("none", x.end(0), 0);
    s.due("no bytes", x.about(6), 0);

    s.says(3, "NONE, doing nothing, if it has not so many, or n is below 0");
    OneWaySpell y = new OneWaySpell();
    s.due("1 of 0", y.end(1), -1);
    s.due("-1 of 0", y.end(-1), -1);
    y.feed(0x61626364, 0x65666768, 0x696a6b6c, 0x6d6e6f70, 0x71727374);
    s.due("21 of 20", y.end(21), -1);
    s.due("-1 of 20", y.end(-1), -1);
    s.due("MAX", y.end(MAX), -1);
    s.due("MIN", y.end(MIN), -1);
    s.due("600 of 20", y.end(600), -1);
    s.due("20 still", y.about(6), 20);
    y.end(10);
    s.due("no more than are left", y.end(11), -1);
    s.due("10 still", y.word(), 10);
    s.due("their letters", Tapes.theWord(y), "abcdefghij");
    for (int i = 0; i < 30; i++) {
      y.feed(0, 0, 0, 0, 0);
    }
    s.due("601 of 600", y.end(601), -1);
    s.due("600 of 600", y.end(600), 600);
  }

  private static void tableIsTaken() {
    s.says(4, "The TAPE (empty then, also at a FAULT) is the TABLE");
    OneWaySpell x = new OneWaySpell();
    s.due("two", Tapes.table(x, "sound p=a|b;"), 2);
    s.due("empty then", x.about(6), 0);
    s.due("a fault", Tapes.table(x, "sound p=a|b"), -1);
    s.due("empty at a fault", x.about(6), 0);
    Tapes.table(x, "$ sound p=a;");
    s.due("empty at a fault of the first byte", x.about(6), 0);
    s.due("the next one starts anew", Tapes.table(x, "sound p=c;"), 1);
    s.due("c", Tapes.group(x, 0), "c");
    s.due("an empty tape is a table, too", x.table(), 0);
    s.due("without fault", x.fault(0), 0);
    s.due("no sound", x.about(0), 0);
    s.due("no group", x.group(0, 0), -1);

    s.says(4, "(none is OUT, THE WORD is empty, no ACTS are kept): how many GROUPS");
    OneWaySpell y = Tapes.of("sound p=a|ab|b;sound q=c;");
    Tapes.word(y, "abab");
    y.out(3, true);
    y.mend(0);
    s.due("all of these", Tapes.table(y, "sound p=a|ab|b;sound q=c;"), 4);
    s.due("none is out", y.about(2), 15);
    s.due("no letters", y.about(4), 0);
    s.due("no acts", y.about(5), 0);
    s.due("nothing to undo", y.undo(), false);
    s.due("no mark", Tapes.group(y, 0), "a");
    s.due("no letter", y.letter(0), -1);
    Tapes.word(y, "abab");
    y.out(0, true);
    s.due("an empty one, too", y.table(), 0);
    s.due("nothing is in", y.about(2), 0);
    s.due("no letters then", y.about(4), 0);
    s.due("no acts then", y.about(5), 0);
  }

  private static void tableIsRefused() {
    s.says(4, "NONE: a FAULT (all else stays)");
    OneWaySpell x = Tapes.of("sound p=a|ab|b;sound q=c;");
    Tapes.word(x, "abc");
    x.out(3, true);
    x.mend(0);
    String[] faulty = {"$", "sound", "sound p=z|y|x|w|v|u|t;sound p=q;", "sound p=z|y|z;"};
    for (String text : faulty) {
      s.due(text, Tapes.table(x, text), -1);
      due(x, "about with " + text, 2, 4, 7, 3, 3, 2, 0, 1, 0);
      s.due("the mark", Tapes.group(x, 0), "a{");
      s.due("the word", Tapes.theWord(x), "abc");
      s.due("its sound", x.group(3, 0), 1);
    }
    s.due("undo the mark", x.undo(), true);
    s.due("undo out", x.undo(), true);
    s.due("all is in", x.about(2), 15);
    s.due("a", Tapes.group(x, 0), "a");
  }

  private static void fault() {
    s.says(5, "Of the latest table() what 0: its FAULT (0: without; ahead of any, too), 1: its place (NONE likewise)");
    OneWaySpell x = new OneWaySpell();
    s.due("ahead of any", x.fault(0), 0);
    s.due("no place ahead of any", x.fault(1), -1);
    x.table();
    s.due("without, empty", x.fault(0), 0);
    s.due("no place, empty", x.fault(1), -1);
    Tapes.table(x, "$");
    s.due("1", x.fault(0), 1);
    s.due("place 0", x.fault(1), 0);
    Tapes.table(x, "sound p=a|a;");
    s.due("the latest", x.fault(0), 3);
    s.due("its place", x.fault(1), 10);
    Tapes.word(x, "$");
    x.undo();
    s.due("word() has none of these", x.fault(0), 3);
    s.due("nor a place", x.fault(1), 10);
    Tapes.table(x, "sound p=a;");
    s.due("without again", x.fault(0), 0);
    s.due("no place again", x.fault(1), -1);

    s.says(5, "NONE for another what");
    for (int what : new int[] {-1, 2, 3, 10, MAX, MIN}) {
      s.due("without, " + what, x.fault(what), -1);
    }
    Tapes.table(x, "sound p=");
    for (int what : new int[] {-1, 2, 3, 10, MAX, MIN}) {
      s.due("with one, " + what, x.fault(what), -1);
    }
  }

  private static void taken(String text, int groups) {
    OneWaySpell x = new OneWaySpell();
    s.due("groups of " + text, Tapes.table(x, text), groups);
    s.due("fault of " + text, x.fault(0), 0);
  }

  private static void refused(String text, int kind, int place) {
    OneWaySpell x = new OneWaySpell();
    s.due("table of " + text, Tapes.table(x, text), -1);
    s.due("fault of " + text, x.fault(0), kind);
    s.due("place in " + text, x.fault(1), place);
  }

  private static void textsOf600() {
    s.says(T, "{line}, line = sound NAME = GROUP {| GROUP} ;.");
    taken("", 0);
    taken("sound a=b;", 1);
    taken("sound a=b|c;sound d=e;", 3);
    refused("sound a=b;;", 2, 10);
    refused("sound a;", 2, 7);
    refused("sound a=b|;", 2, 10);
    refused("sound a=b;sound c;", 2, 17);

    s.says(T, "A TABLE is a text of at most 600 bytes");
    String line = "sound a=b;";
    taken(line + " ".repeat(590), 1);
    taken(" ".repeat(590) + line, 1);
    taken("\n".repeat(600), 0);
    taken("", 0);
    taken(" ", 0);
    refused(" ".repeat(599) + "$", 1, 599);
    refused(" ".repeat(595) + "sound", 2, 600);
    refused("a".repeat(600), 2, 0);
    refused("sound " + "a".repeat(594), 2, 6);
    refused("sound a=" + "a".repeat(592), 2, 8);
  }

  private static void names() {
    s.says(T, "A NAME: a word but sound (6 letters at most)");
    taken("sound a=b;", 1);
    taken("sound abcdef=b;", 1);
    refused("sound abcdefg=b;", 2, 6);
    refused("sound =b;", 2, 6);
    refused("sound sound=b;", 2, 6);
    taken("sound soun=b;", 1);
    taken("sound sounds=b;", 1);
    taken("sound zsound=b;", 1);
    taken("sound az=b;sound a=c;sound z=d;sound za=e;", 4);
    refused("sound abcdef=b;sound abcdef=c;", 3, 21);
    refused("sound a=b;sound c=d;sound a=e;", 3, 26);
  }

  private static void rows() {
    s.says(T, "GROUP: a row of 1 .. 6 letters a .. z.");
    taken("sound p=a|z|abcdef|zyxwvu;", 4);
    refused("sound p=abcdefg;", 2, 8);
    refused("sound p=;", 2, 8);
    refused("sound p=a|;", 2, 10);
    refused("sound p=`;", 1, 8);
    refused("sound p={;", 1, 8);
    refused("sound p=a{;", 1, 9);
    refused("sound p=A;", 1, 8);
    refused("sound p=Z;", 1, 8);

    s.says(T, "no two GROUPS are alike");
    refused("sound p=abcdef|abcdef;", 3, 15);
    refused("sound p=a;sound q=b|a;", 3, 20);
    taken("sound p=a|aa|aaa|aaaa|aaaaa|aaaaaa;", 6);
    taken("sound p=p;sound q=q;", 2);
  }

  private static String lines(int n) {
    StringBuilder b = new StringBuilder();
    for (int i = 0; i < n; i++) {
      b.append("sound ").append((char) ('a' + i)).append('=').append((char) ('z' - i)).append(';');
    }
    return b.toString();
  }

  private static void manySounds() {
    s.says(T, "At most 10 SOUNDS");
    taken(lines(9), 9);
    taken(lines(10), 10);
    refused(lines(11), 4, 100);
    OneWaySpell x = Tapes.of(lines(10));
    s.due("ten", x.about(0), 10);
    s.due("the last one's sound", x.group(9, 0), 9);

    s.says(T, "4 one SOUND, one GROUP too many (at sound; at the GROUP)");
    refused(lines(10) + "  sound", 4, 102);
    refused(lines(10) + "sound a=z;", 4, 100);
    refused(lines(10) + "sound sound", 4, 100);
    refused(many(14) + "|z ;", 4, many(14).length() + 1);
    refused(many(14) + "| \n z", 4, many(14).length() + 4);
    refused(many(14) + ";sound q=z;", 4, many(14).length() + 9);
  }

  /** One line of n groups, its end left open. */
  private static String many(int n) {
    StringBuilder b = new StringBuilder("sound p");
    for (int i = 0; i < n; i++) {
      b.append(i == 0 ? '=' : '|').append((char) ('a' + i));
    }
    return b.toString();
  }

  private static void manyGroups() {
    s.says(T, "14 GROUPS in all");
    taken(many(13) + ";", 13);
    taken(many(14) + ";", 14);
    taken(many(13) + ";sound q=z;", 14);
    refused(many(15) + ";", 4, 36);
    refused(many(13) + ";sound q=z|y;", 4, many(13).length() + 11);

    s.says(T, "SOUNDS, GROUPS (all together) are numbered from 0 on as they are told.");
    OneWaySpell x = Tapes.of("sound z=c|a;sound a=b;");
    s.due("first", Tapes.group(x, 0), "c");
    s.due("last", Tapes.group(x, 2), "b");
    s.due("its sound", x.group(2, 0), 1);
    s.due("the first one's", x.group(0, 0), 0);
  }

  private static void tokens() {
    s.says(T, "Blanks (32, 10) part them or not; each is as long as can be.");
    taken("sound\na=b|c;sound d\n=\n e;\n", 3);
    taken("  sound  a  =  b  |  c  ;  ", 2);
    refused("sounda=b;", 2, 0);
    refused("sou nd a=b;", 2, 0);
    refused("sound a b=c;", 2, 8);
    refused("sound a=b c;", 2, 10);
    refused("sound a=bcd efg;", 2, 12);
    refused("sound abc def=b;", 2, 10);

    s.says(T, "(sound may be a GROUP, too: where a GROUP must stand.)");
    taken("sound a=sound;", 1);
    taken("sound a=b|sound|c;", 3);
    refused("sound a=b sound;", 2, 10);
    refused("sound a=sound|sound;", 3, 14);
    refused("sound a sound=b;", 2, 8);
    refused("sound a=b;sound sound=sound;", 2, 16);

    s.says(T, "1 no TOKEN (a byte that is none of these)");
    OneWaySpell x = new OneWaySpell();
    for (int c = 0; c < 256; c++) {
      boolean blank = c == 32 || c == 10;
      boolean none = !blank && !(c >= 'a' && c <= 'z') && c != '=' && c != '|' && c != ';';
      Tapes.table(x, "sound a=b;" + (char) c);
      s.due("fault at a line by " + c, x.fault(0), none ? 1 : blank ? 0 : 2);
      x = c % 60 == 59 ? new OneWaySpell() : x;
      Tapes.table(x, "sound " + (char) c + "=b;");
      s.due("fault at a name by " + c, x.fault(0), none ? 1 : c >= 'a' && c <= 'z' ? 0 : 2);
    }
  }

  private static void faultPlaces() {
    s.says(T, "the first by its place (the first byte of a TOKEN, or of what is none; bytes from 0; the end: the text's length)");
    refused("$", 1, 0);
    refused("a", 2, 0);
    refused("   sounds", 2, 3);
    refused("sound a=abcdefg$", 2, 8);
    refused("sound a=b|b$", 3, 10);
    refused("sound a=b$|b", 1, 9);
    refused("sound", 2, 5);
    refused("sound ", 2, 6);
    refused("sound a", 2, 7);
    refused("sound a=", 2, 8);
    refused("sound a=b", 2, 9);
    refused("sound a=b|", 2, 10);
    refused("sound a=b|c\n\n", 2, 13);
    refused("sound a=b;sound", 2, 15);
    refused("sound a=b;$", 1, 10);

    s.says(T, "2 one that can't stand there, a NAME, a GROUP of more than 6 letters");
    String[] ahead = {"", "sound ", "sound a ", "sound a = ", "sound a = b ", "sound a = b | ", "sound a = b ; "};
    String[] fits = {"sound", "a", "=", "b", "|;", "c", "sound"};
    String[] next = {"sound", "=", "|", ";", "b"};
    for (int i = 0; i < ahead.length; i++) {
      for (String token : next) {
        boolean row = Character.isLetter(token.charAt(0));
        boolean stands = i == 0 || i == 6 ? token.equals("sound")
            : i == 1 ? row && !token.equals("sound") : i == 3 ? row : i == 5 ? row && !token.equals("b")
            : fits[i].contains(token);
        OneWaySpell x = new OneWaySpell();
        Tapes.table(x, ahead[i] + token);
        boolean told = i == 5 && token.equals("b");
        s.due("place of " + ahead[i] + token, x.fault(1),
            !stands ? ahead[i].length() : i == 4 && token.equals(";") ? -1 : ahead[i].length() + token.length());
        s.due("fault of " + ahead[i] + token, x.fault(0), told ? 3 : i == 4 && token.equals(";") ? 0 : 2);
      }
    }

    s.says(T, "3 a NAME, a GROUP told already");
    refused("sound a=b;sound a", 3, 16);
    refused("sound a=b;sound c=b", 3, 18);
    refused("sound a=b|c|d|b", 3, 14);
  }

  private static void leastFault() {
    s.says(T, "at one place the least");
    refused(many(14) + "|$", 1, many(14).length() + 1);
    refused(many(14) + "|abcdefg", 2, many(14).length() + 1);
    refused(many(14) + "|;", 2, many(14).length() + 1);
    refused(many(14) + "|", 2, many(14).length() + 1);
    refused(many(14) + "|a", 3, many(14).length() + 1);
    refused(many(14) + "|n", 3, many(14).length() + 1);
    refused(many(14) + "|o", 4, many(14).length() + 1);
    refused(lines(10) + "$", 1, 100);
    refused(lines(10) + "sounds", 2, 100);
    refused(lines(10) + ";", 2, 100);
    refused(lines(10) + "sound", 4, 100);
  }

  private static OneWaySpell sevenLetters() {
    OneWaySpell x = Tapes.of("sound p=aaaaaa|a;");
    x.mend(0);
    return x;
  }

  private static void group() {
    s.says(6, "Of a GROUP what 0: its SOUND, 1: how many letters, 2: 1 if it is OUT, else 0; 10 + i: its letter i.");
    OneWaySpell x = Tapes.of(many(13) + ";sound q=qrstuv;");
    s.due("the last one's sound", x.group(13, 0), 1);
    s.due("its letters", x.group(13, 1), 6);
    s.due("in", x.group(13, 2), 0);
    x.out(13, true);
    s.due("out", x.group(13, 2), 1);
    s.due("first letter", x.group(13, 10), 'q');
    s.due("last letter", x.group(13, 15), 'v');
    s.due("the first one", x.group(0, 1), 1);
    s.due("its letter", x.group(0, 10), 'a');
    OneWaySpell y = sevenLetters();
    s.due("marked", y.group(0, 1), 7);
    s.due("its mark", y.group(0, 16), 123);

    s.says(6, "NONE if there is none such, or for another what.");
    for (int k : new int[] {-1, 14, 15, 32, MAX, MIN}) {
      for (int what : new int[] {0, 1, 2, 10}) {
        s.due("group " + k + " " + what, x.group(k, what), -1);
      }
    }
    for (int what : new int[] {-1, 3, 4, 8, 9, 16, 17, 100, MAX, MIN}) {
      s.due("what " + what, x.group(13, what), -1);
    }
    s.due("of one letter", x.group(0, 11), -1);
    s.due("of seven letters", y.group(0, 17), -1);
    s.due("13 of 13", Tapes.of(many(13) + ";").group(13, 0), -1);
  }

  private static void about() {
    s.says(7, "What 0: SOUNDS, 1: GROUPS, 2: those that are not OUT (bits), 3: K, 4: how many letters THE WORD has, "
        + "5: ACTS that can be undone, 6: bytes on the TAPE");
    OneWaySpell x = Tapes.of(many(13) + ";sound q=qrstuv;");
    due(x, "full", 2, 14, 16383, 19, 0, 0, 0);
    x.out(0, true);
    x.out(13, true);
    Tapes.word(x, "z".repeat(40));
    Tapes.put(x, " ".repeat(600));
    due(x, "two out", 2, 14, 8190, 12, 40, 2, 600);
    for (int k = 1; k < 13; k++) {
      x.out(k, true);
    }
    due(x, "all out", 2, 14, 0, 2, 40, 12, 600);
    s.due("sounds stay that have no group in", x.about(0), 2);

    s.says(7, "7: 1 if no GROUP (not OUT) begins another one, else 0, 8: likewise for ends.");
    s.due("none: begins", x.about(7), 1);
    s.due("none: ends", x.about(8), 1);
    OneWaySpell y = Tapes.of("sound p=abcdef|abcde|bcdef;");
    s.due("five letters begin", y.about(7), 0);
    s.due("five letters end", y.about(8), 0);
    y.out(1, true);
    s.due("out: begins", y.about(7), 1);
    s.due("in: ends", y.about(8), 0);
    y.out(2, true);
    s.due("alone: begins", y.about(7), 1);
    s.due("alone: ends", y.about(8), 1);
    y.out(1, false);
    y.out(0, true);
    s.due("what is begun is out", y.about(7), 1);
    s.due("inside is neither", Tapes.of("sound p=abc|b;").about(7) + Tapes.of("sound p=abc|b;").about(8), 2);

    s.says(7, "NONE for another what.");
    for (int what : new int[] {-1, 9, 10, -2, MAX, MIN}) {
      s.due("what " + what, x.about(what), -1);
    }
  }

  private static void letters() {
    s.says(T, "LETTERS are a .. z and the MARK, which is above all of them (123).");
    OneWaySpell x = Tapes.of("sound p=a|aa|z;");
    x.mend(0);
    s.due("the mark's number", x.group(0, 11), 123);
    s.due("z, then the mark", Tapes.borders(x, 1), "z {");

    s.says(T, "how many unlike LETTERS there are in GROUPS that are not OUT (2 at the least)");
    s.due("none", new OneWaySpell().about(3), 2);
    s.due("one", Tapes.of("sound p=zzz;").about(3), 2);
    s.due("two", Tapes.of("sound p=az;").about(3), 2);
    s.due("three", Tapes.of("sound p=aza|n;").about(3), 3);
    OneWaySpell y = Tapes.of("sound p=aaaaaa|a|abcdef|ghijkl|mnopqr|stuvwx|yz;");
    s.due("all but the mark", y.about(3), 26);
    y.mend(0);
    s.due("all", y.about(3), 27);
    y.out(0, true);
    s.due("the mark is out", y.about(3), 26);
    for (int k = 2; k < 7; k++) {
      y.out(k, true);
    }
    s.due("a alone", y.about(3), 2);
  }

  private static void meets() {
    s.says(8, "The most letters with which GROUP a ends and b begins, fewer than either has (0: none; OUT or not)");
    OneWaySpell x = Tapes.of("sound p=aaaaaa|aaaaa|a|ab|abab|b|ba;");
    s.due("six and itself", x.meets(0, 0), 5);
    s.due("six, five", x.meets(0, 1), 4);
    s.due("five, six", x.meets(1, 0), 4);
    s.due("one letter", x.meets(2, 2), 0);
    s.due("one letter, many", x.meets(2, 0), 0);
    s.due("many, one letter", x.meets(0, 2), 0);
    s.due("ab, abab: not all of ab", x.meets(3, 4), 0);
    s.due("abab, ab: not all of ab", x.meets(4, 3), 0);
    s.due("abab, itself", x.meets(4, 4), 2);
    s.due("ab, b: not all of b", x.meets(3, 5), 0);
    s.due("ab, ba", x.meets(3, 6), 1);
    s.due("not the other way", x.meets(3, 3), 0);
    x.out(0, true);
    x.out(1, true);
    s.due("both out", x.meets(0, 1), 4);
    OneWaySpell y = Tapes.of("sound p=aaaaaa|a|aaa;");
    y.out(2, true);
    y.mend(1);
    s.due("{aaaaaa", Tapes.group(y, 0), "{aaaaaa");
    s.due("seven and three", y.meets(0, 2), 2);
    s.due("seven and itself", y.meets(0, 0), 0);

    s.says(8, "NONE if there is none such.");
    for (int k : new int[] {-1, 7, 14, MAX, MIN}) {
      s.due("a is " + k, x.meets(k, 0), -1);
      s.due("b is " + k, x.meets(0, k), -1);
      s.due("both are " + k, x.meets(k, k), -1);
    }
  }
}
