import java.io.IOException;

/** The edges of cures and acts: promises 32 to 35, their terms, and the last calls of an object. */
public final class CureEdgeTest {
  private static final int MAX = Integer.MAX_VALUE;
  private static final int MIN = Integer.MIN_VALUE;
  private static final int T = Sentences.TERMS;
  private static Sentences s;

  public static void main(String[] args) throws IOException {
    s = new Sentences();
    cure();
    cureOfWhich();
    marked();
    mend();
    noMend();
    out();
    outRefused();
    undo();
    twelveActs();
    actsOfCures();
    theWordStays();
    lastCalls();
    s.finish(32, 35);
  }

  private static void cure() {
    s.says(32, "CURE by a way, as bits (0: it PARTS now)");
    for (int way = 0; way < 3; way++) {
      s.due("no groups", new OneWaySpell().cure(way), 0);
      s.due("one group", Tapes.of("sound p=a;").cure(way), 0);
      s.due("parts", Tapes.of("sound p=a|ab|bb;").cure(way), 0);
      s.due("the first of two", Tapes.of("sound p=a|aa;").cure(way), 1);
      // only a is in both doubts
      OneWaySpell last = Tapes.of("sound p=ab|b|ac|c|d|e|f|g|h|i|j|k|l|a;");
      s.due("the fourteenth", last.cure(way), 1 << 13);
      s.due("all but one of six", Tapes.of("sound p=a|aa|aaa|aaaa|aaaaa|aaaaaa;").cure(way), 31);
      s.due("nothing is done", last.about(5) + last.parts(), 0);
    }

    s.says(32, "NONE if there is none, or no such way");
    for (int way : new int[] {-1, 3, 4, MAX, MIN}) {
      s.due("way " + way, Tapes.of("sound p=a|aa;").cure(way), -1);
      s.due("way " + way + ", parts", Tapes.of("sound p=a|b;").cure(way), -1);
      s.due("way " + way + ", no groups", new OneWaySpell().cure(way), -1);
    }
  }

  private static void cureOfWhich() {
    s.says(T, "the fewest GROUPS (not OUT, and that have 6 letters at most)");
    for (int way = 0; way < 3; way++) {
      OneWaySpell x = Tapes.of("sound p=a|aa|aaa;");
      x.out(0, true);
      s.due("one is out, way " + way, x.cure(way), 2);
      x.out(1, true);
      s.due("two are out, way " + way, x.cure(way), 0);
      OneWaySpell y = Tapes.of("sound p=aaaaaa|a|aa;");
      y.out(2, true);
      s.due("six letters can be, way " + way, y.cure(way), 1);
      y.mend(0);
      y.out(2, false);
      s.due("aaaaaa{, a and aa, way " + way, y.cure(way), 2);
      // xaaaaa{ is x aaaaa{; the one of seven letters is told first, but is not taken
      OneWaySpell z = Tapes.of("sound p=xaaaaa|aaaaa|x|xa|aaaa|aa|aaa|a;");
      onlyIn(z, 1 << 0 | 1 << 3 | 1 << 4);
      z.mend(0);
      onlyIn(z, 1 << 1 | 1 << 7);
      z.mend(0);
      onlyIn(z, 1 << 0 | 1 << 1 | 1 << 2);
      s.due("xaaaaa{", Tapes.group(z, 0), "xaaaaa{");
      s.due("aaaaa{", Tapes.group(z, 1), "aaaaa{");
      s.due("in doubt", z.parts(), 0);
      s.due("not the first, way " + way, z.cure(way), 2);
    }

    s.says(T, "of like ones the first as a row of numbers, rising. (None, if it PARTS now.)");
    for (int way = 0; way < 3; way++) {
      // bb, ba, aa are of b and a: 2 and 3 would do, 0 and 4 would, 3 and 4 would
      OneWaySpell x = Tapes.of("sound p=bb|ba|aa|b|a;");
      s.due("0 4, way " + way, x.cure(way), 17);
      x.mend(way);
      s.due("none now, way " + way, x.cure(way), 0);
    }
  }

  private static void onlyIn(OneWaySpell x, int bits) {
    for (int k = 0; k < x.about(1); k++) {
      x.out(k, (bits >> k & 1) == 0);
    }
  }

  private static void marked() {
    s.says(T, "MARKED behind, ahead: a GROUP gets the MARK as one more letter behind, ahead of it.");
    OneWaySpell x = Tapes.of("sound p=aaaaaa|a;");
    x.mend(0);
    s.due("behind", Tapes.group(x, 0), "aaaaaa{");
    x.undo();
    s.due("six again", Tapes.group(x, 0), "aaaaaa");
    x.mend(1);
    s.due("ahead", Tapes.group(x, 0), "{aaaaaa");
    x.undo();
    s.due("six at last", Tapes.group(x, 0), "aaaaaa");
    // x{ and ax{ and a: the first is marked once more
    OneWaySpell y = Tapes.of("sound p=x|ax|xx|axax|a;");
    onlyIn(y, 1 << 0 | 1 << 2);
    y.mend(0);
    onlyIn(y, 1 << 1 | 1 << 3);
    y.mend(0);
    onlyIn(y, 1 << 0 | 1 << 1 | 1 << 4);
    s.due("in doubt", y.parts(), 0);
    s.due("one", y.mend(0), 1);
    s.due("twice", Tapes.group(y, 0), "x{{");
    y.undo();
    s.due("once", Tapes.group(y, 0), "x{");
    s.due("one, ahead", y.mend(1), 1);
    s.due("on both sides", Tapes.group(y, 0), "{x{");
    y.undo();
    s.due("behind still", Tapes.group(y, 0), "x{");
  }

  private static void mend() {
    s.says(33, "CURE is done: how many GROUPS");
    OneWaySpell x = Tapes.of("sound p=a|aa;");
    s.due("one", x.mend(0), 1);
    s.due("a{", Tapes.group(x, 0), "a{");
    s.due("it parts", x.parts(), 1);
    OneWaySpell y = Tapes.of("sound p=a|aa|aaa|aaaa|aaaaa|aaaaaa;");
    s.due("five", y.mend(2), 5);
    s.due("one is left", y.about(2), 32);
    OneWaySpell z = Tapes.of("sound p=ab|b|ac|c|d|e|f|g|h|i|j|k|l|a;");
    s.due("the last one", z.mend(1), 1);
    s.due("{a", Tapes.group(z, 13), "{a");

    s.says(33, "(An ACT.)");
    s.due("one act of one", x.about(5), 1);
    s.due("one act of five", y.about(5), 1);
    s.due("it is undone", y.undo(), true);
    s.due("all of it", y.about(2), 63);
  }

  private static void noMend() {
    s.says(33, "NONE, doing nothing, if there is none, or it is of none.");
    OneWaySpell x = Tapes.of("sound p=a|aa;");
    for (int way : new int[] {-1, 3, 4, MAX, MIN}) {
      s.due("way " + way, x.mend(way), -1);
      s.due("way " + way + ", no groups", new OneWaySpell().mend(way), -1);
    }
    s.due("a still", Tapes.group(x, 0) + Tapes.group(x, 1), "aaa");
    s.due("both in", x.about(2), 3);
    s.due("no act", x.about(5), 0);
    for (int way = 0; way < 3; way++) {
      OneWaySpell y = Tapes.of("sound p=a|ab|bb;");
      s.due("parts", y.mend(way), -1);
      s.due("no act of none", y.about(5), 0);
      s.due("nothing to undo", y.undo(), false);
      s.due("all in", y.about(2), 7);
      s.due("no groups", new OneWaySpell().mend(way), -1);
    }
    s.due("mended", x.mend(2), 1);
    s.due("not again", x.mend(2), -1);
    s.due("nor by another way", x.mend(0), -1);
    s.due("one act", x.about(5), 1);
  }

  private static void out() {
    s.says(34, "A GROUP is OUT (is true), or in again: true");
    OneWaySpell x = Tapes.of("sound p=a|b|c|d|e|f|g|h|i|j|k|l|m|n;");
    s.due("the first", x.out(0, true), true);
    s.due("the last", x.out(13, true), true);
    s.due("bits", x.about(2), 16383 - 1 - 8192);
    s.due("the last, in again", x.out(13, false), true);
    s.due("bits then", x.about(2), 16382);
    s.due("it is as it was", x.group(13, 2), 0);

    s.says(34, "(An ACT.)");
    s.due("three", x.about(5), 3);
    s.due("undone", x.undo(), true);
    s.due("out once more", x.group(13, 2), 1);
  }

  private static void outRefused() {
    s.says(34, "false, doing nothing, if there is none such, or it is so.");
    OneWaySpell x = Tapes.of("sound p=a|b|c;");
    for (int k : new int[] {-1, 3, 4, 14, 31, 32, 33, MAX, MIN}) {
      s.due("out " + k, x.out(k, true), false);
      s.due("in " + k, x.out(k, false), false);
      s.due("no groups, out " + k, new OneWaySpell().out(k, true), false);
    }
    s.due("in already", x.out(2, false), false);
    s.due("bits", x.about(2), 7);
    s.due("no acts", x.about(5), 0);
    x.out(2, true);
    s.due("out already", x.out(2, true), false);
    s.due("bits then", x.about(2), 3);
    s.due("one act", x.about(5), 1);
    OneWaySpell y = Tapes.of("sound p=a|aa;");
    y.mend(2);
    s.due("out by a cure", y.out(0, true), false);
    s.due("in again", y.out(0, false), true);
    s.due("no groups", new OneWaySpell().out(0, true), false);
    s.due("no groups, in", new OneWaySpell().out(0, false), false);
  }

  private static void undo() {
    s.says(35, "UNDO: true");
    OneWaySpell x = Tapes.of("sound p=a|b|c|aa;");
    x.out(0, true);
    x.out(1, true);
    s.due("of the latest", x.undo(), true);
    s.due("b is in", x.about(2), 14);
    s.due("of the first", x.undo(), true);
    s.due("all in", x.about(2), 15);

    s.says(T, "UNDO takes back the latest that was not");
    x.out(0, true);
    x.out(1, true);
    x.undo();
    x.out(2, true);
    s.due("two can be", x.about(5), 2);
    x.undo();
    s.due("not b, which was undone", x.about(2), 14);
    x.undo();
    s.due("then a", x.about(2), 15);

    s.says(35, "false if there is none.");
    s.due("no more", x.undo(), false);
    s.due("still none", x.undo(), false);
    s.due("nothing is done", x.about(2), 15);
    s.due("none to come", x.about(5), 0);
    s.due("a new object", new OneWaySpell().undo(), false);
    x.out(0, false);
    x.mend(3);
    x.out(9, true);
    s.due("refused calls are no acts", x.undo(), false);
    x.out(0, true);
    Tapes.table(x, "sound p=a|b;");
    s.due("none behind a table", x.undo(), false);
    s.due("both in", x.about(2), 3);
  }

  private static void twelveActs() {
    s.says(T, "12 are kept, the oldest go.");
    for (int acts = 11; acts <= 14; acts++) {
      OneWaySpell x = Tapes.of("sound p=a|b|c|d|e|f|g|h|i|j|k|l|m|n;");
      for (int k = 0; k < acts; k++) {
        x.out(k, true);
      }
      s.due("kept of " + acts, x.about(5), Math.min(12, acts));
      int undone = 0;
      while (undone < 20 && x.undo()) {
        undone++;
      }
      s.due("undone of " + acts, undone, Math.min(12, acts));
      s.due("what stays out of " + acts, x.about(2), 16383 - ((1 << Math.max(0, acts - 12)) - 1));
    }
    OneWaySpell y = Tapes.of("sound p=a|b|c|d|e|f|g|h|i|j|k|l|m|n;");
    for (int k = 0; k < 13; k++) {
      y.out(k, true);
    }
    y.undo();
    s.due("eleven", y.about(5), 11);
    y.out(13, true);
    s.due("twelve, and none has gone", y.about(5), 12);
    for (int i = 0; i < 12; i++) {
      s.due("undo " + i, y.undo(), true);
    }
    s.due("the thirteenth", y.undo(), false);
    s.due("the first stays out", y.about(2), 16382);
  }

  private static void actsOfCures() {
    s.says(T, "ACTS: a GROUP is OUT or in again; a CURE is done.");
    OneWaySpell x = Tapes.of("sound p=a|aa|b;");
    s.due("marked", x.mend(0), 1);
    for (int i = 0; i < 11; i++) {
      x.out(2, i % 2 == 0);
    }
    s.due("twelve", x.about(5), 12);
    for (int i = 0; i < 12; i++) {
      x.undo();
    }
    s.due("the mark is taken back", Tapes.group(x, 0), "a");
    s.due("and it doubts", x.parts(), 0);
    x.mend(0);
    for (int i = 0; i < 12; i++) {
      x.out(2, i % 2 == 0);
    }
    s.due("twelve then", x.about(5), 12);
    for (int i = 0; i < 12; i++) {
      s.due("undo", x.undo(), true);
    }
    s.due("the oldest has gone", x.undo(), false);
    s.due("so the mark stays", Tapes.group(x, 0), "a{");
    s.due("and all are in", x.about(2), 7);
    // the thirteenth act comes behind a mark, and behind that one more
    OneWaySpell z = Tapes.of("sound p=a|aa|b|aaa;");
    z.out(3, true);
    for (int i = 0; i < 10; i++) {
      z.out(2, i % 2 == 0);
    }
    z.mend(1);
    z.out(2, true);
    s.due("the latest of thirteen", z.undo() ? z.about(2) : -1, 7);
    s.due("the mark ahead", Tapes.group(z, 0), "{a");
    s.due("the twelfth is the mark", z.undo(), true);
    s.due("no mark", Tapes.group(z, 0), "a");
    s.due("the eleventh is b", z.undo() ? z.about(2) : -1, 3);
    for (int i = 0; i < 9; i++) {
      s.due("undo down to the second", z.undo(), true);
    }
    s.due("the first has gone", z.undo(), false);
    s.due("so aaa stays out", z.about(2), 7);
    OneWaySpell y = Tapes.of("sound p=a|aa;");
    for (int i = 0; i < 13; i++) {
      s.due("mend " + i, y.mend(2), 1);
      s.due("in again " + i, y.out(0, false), true);
    }
    s.due("twelve of 26", y.about(5), 12);
    s.due("the latest is out again", y.undo() ? y.about(2) : -1, 2);
    s.due("the one before it is the cure", y.undo() ? y.about(2) : -1, 3);
  }

  private static void theWordStays() {
    s.says(T, "THE WORD stays.");
    OneWaySpell x = Tapes.of("sound p=a|aa;");
    Tapes.word(x, "aa{");
    x.mend(0);
    s.due("behind a cure", Tapes.theWord(x), "aa{");
    x.undo();
    s.due("behind undo", Tapes.theWord(x), "aa{");
    x.out(0, true);
    s.due("behind out", Tapes.theWord(x), "aa{");
    x.witness();
    x.undo();
    x.witness();
    s.due("a witness", Tapes.theWord(x), "aa");
    x.mend(2);
    x.undo();
    s.due("what was found stays, too", Tapes.theWord(x), "aa");
    s.due("undo takes back no word", x.undo() ? 1 : 0, 0);
    s.due("aa", Tapes.theWord(x), "aa");
  }

  /** The last ones answer as the first do. */
  private static void lastCalls() {
    s.says(Sentences.PREFACE, "An object is used for at most 512 calls after it has been made");
    OneWaySpell x = new OneWaySpell();
    x.feed(0x736f756e, 0x6420703d, 0x617c6162, 0x7c623b20, 0x20202020);
    x.end(15);
    s.due("call 3", x.table(), 3);
    for (int i = 4; i <= 509; i++) {
      s.due("call " + i, x.out(1, i % 2 == 0), true);
    }
    s.due("call 510", x.about(5), 12);
    s.due("call 511", x.witness(), 2);
    s.due("call 512", x.cure(2), 1);
  }
}
