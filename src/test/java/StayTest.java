import java.util.ArrayList;
import java.util.List;

/**
 * What stays: every answer that can be asked for without a change is asked ahead of a call and behind
 * it. A table with a FAULT, calls that do nothing, acts that were undone, and groups OUT and in again
 * must leave all of them as they were, in each of several states.
 */
public final class StayTest {
  private static final String[] TABLES = {
    "",
    "sound a=a|ab|b;",
    "sound k=c|k|ck;sound s=s|sc;sound e=e|ee;sound x=cks;",
    "sound a=a|aa|aaa;sound b=aaaa|aaaaa|aaaaaa;",
    "sound one=abcdef|fabcde|bcdefa;sound two=cdefab|ab|cd|ef|fa;",
    "sound p=ab|abb|baa|b;sound q=bba|aab|sound;",
  };
  private static final String[] FAULTS = {
    "x", "sound", "sound a=a", "sound a=A;", "sound a=a|a;", "sound a=abcdefg;", "sound sound=a;",
    "sound a=a;sound a=b;", "sound a=a;sound b=b;sound c=c;;", "=", "sound a=b|c|d|e|f|g|h|i|j|k|l|m|n|o|p;",
  };
  private static int wrong = 0;
  private static int compared = 0;

  private interface Call {
    void on(OneWaySpell x);
  }

  public static void main(String[] args) {
    for (String table : TABLES) {
      for (int state = 0; state < 6; state++) {
        faultsLeaveAll(table, state);
        callsThatDoNothing(table, state);
        actsAreUndone(table, state);
        outAndInAgain(table, state);
      }
      twelveAreKept(table);
      aTableEndsAll(table);
    }
    System.out.println(compared + " states compared; " + wrong + " did not stay");
    if (wrong != 0 || compared < 500) {
      System.exit(1);
    }
  }

  /** States that acts lead to: none, one OUT, MARKED behind, MARKED ahead with one OUT, both marks, cured by OUT. */
  private static OneWaySpell inState(String table, int state) {
    OneWaySpell x = Tapes.of(table);
    if (state == 1 || state == 3) {
      x.out(1, true);
    }
    if (state == 2 || state == 4) {
      x.mend(0);
      x.out(0, true);
      x.out(0, false);
    }
    if (state == 3 || state == 4) {
      x.mend(1);
    }
    if (state == 5) {
      x.mend(2);
    }
    Tapes.word(x, state % 2 == 0 ? "aab" : "ckscab{a");
    x.drawn(state, state);
    return x;
  }

  /** All but the FAULT and the TAPE; acts that can be undone are asked only if wanted. */
  private static List<Long> answers(OneWaySpell x, boolean withActs) {
    List<Long> all = new ArrayList<>();
    for (int what = 0; what < 10; what++) {
      if (what != 6 && (what != 5 || withActs)) {
        all.add((long) x.about(what));
      }
    }
    for (int k = -1; k <= x.about(1); k++) {
      for (int what = 0; what < 18; what++) {
        all.add((long) x.group(k, what));
      }
      for (int b = 0; b < x.about(1); b++) {
        all.add((long) x.meets(k, b));
      }
    }
    parting(x, all);
    wordly(x, all);
    counted(x, all);
    return all;
  }

  private static void parting(OneWaySpell x, List<Long> all) {
    all.add((long) x.parts());
    all.add((long) x.doubt());
    all.add((long) x.look());
    all.add(x.share(0));
    all.add(x.share(1));
    for (int r = -1; r <= x.tails(-1); r++) {
      all.add((long) x.tails(r));
      for (int k = 0; r > 0 && k < x.tails(r); k++) {
        for (int i = 0; i < 7; i++) {
          all.add((long) x.tail(r, k, i));
        }
      }
    }
    for (int way = 0; way < 3; way++) {
      all.add((long) x.cure(way));
    }
  }

  private static void wordly(OneWaySpell x, List<Long> all) {
    for (int i = 0; i <= x.about(4); i++) {
      all.add((long) x.letter(i));
    }
    all.add(x.readings());
    all.add((long) x.sounds());
    all.add((long) x.goes());
    all.add(x.place());
    for (int i = 0; i < 3; i++) {
      all.add((long) x.reads(i));
      for (int k = 0; k <= x.about(4); k++) {
        all.add((long) x.reading(i, k));
        all.add((long) x.took(i, k));
      }
    }
  }

  private static void counted(OneWaySpell x, List<Long> all) {
    for (int n = 0; n <= 10; n++) {
      for (int what = 0; what < 3; what++) {
        all.add(x.words(n, what));
      }
    }
    for (int n = 1; n <= 4; n++) {
      all.add((long) x.borders(n));
      for (int k = 0; k < x.borders(n); k++) {
        for (int i = 0; i < n; i++) {
          all.add((long) x.border(n, k, i));
        }
      }
    }
  }

  private static void same(String what, List<Long> got, List<Long> want) {
    compared++;
    if (!got.equals(want)) {
      wrong++;
      System.out.println(what + ": " + got + ", due is " + want);
    }
  }

  private static void due(String what, long got, long want) {
    if (got != want) {
      wrong++;
      System.out.println(what + " answered " + got + ", due is " + want);
    }
  }

  private static void faultsLeaveAll(String table, int state) {
    String of = " in state " + state + " of " + table;
    for (String text : FAULTS) {
      OneWaySpell x = inState(table, state);
      List<Long> before = answers(x, true);
      due("table of " + text + of, Tapes.table(x, text), -1);
      due("a FAULT of " + text + of, x.fault(0) > 0 && x.fault(1) >= 0 ? 1 : 0, 1);
      due("TAPE behind " + text + of, x.about(6), 0);
      same("behind the FAULT of " + text + of, answers(x, true), before);
      OneWaySpell y = inState(table, state);
      for (int acts = x.about(5); acts >= 0; acts--) {
        due("undo behind " + text + of, x.undo() ? 1 : 0, y.undo() ? 1 : 0);
        same("undone behind the FAULT of " + text + of, answers(x, true), answers(y, true));
      }
    }
  }

  private static void stays(String what, String table, int state, Call call) {
    OneWaySpell x = inState(table, state);
    Tapes.put(x, "abba");
    List<Long> before = answers(x, true);
    call.on(x);
    same(what + " in state " + state + " of " + table, answers(x, true), before);
    due("TAPE behind " + what, x.about(6), 4);
    x.word();
    due("TAPE's text behind " + what, "abba".equals(Tapes.theWord(x)) ? 1 : 0, 1);
  }

  private static void callsThatDoNothing(String table, int state) {
    for (int odd : new int[] {-1, 14, 15, Integer.MAX_VALUE, Integer.MIN_VALUE}) {
      stays("end " + odd, table, state, x -> due("end", x.end(odd), -1));
      stays("out " + odd, table, state, x -> due("out", x.out(odd, true) ? 1 : 0, 0));
      stays("in " + odd, table, state, x -> due("in", x.out(odd, false) ? 1 : 0, 0));
      stays("mend " + odd, table, state, x -> due("mend", x.mend(odd), -1));
      stays("cure " + odd, table, state, x -> due("cure", x.cure(odd), -1));
      stays("fool " + odd, table, state, x -> due("fool", x.fool(odd), -2));
      stays("drawn " + odd, table, state, x -> due("drawn", x.drawn(7, odd), -1));
      stays("nth " + odd, table, state, x -> due("nth", x.nth(odd, 0) ? 1 : 0, 0));
      stays("nth 2, " + odd, table, state, x -> due("nth", x.nth(2, odd < 0 ? odd : odd + 99L) ? 1 : 0, 0));
      stays("spell " + odd, table, state, x -> due("spell", x.spell(odd, -1, -1, -1), -1));
      stays("spell -1, 0, " + odd, table, state, x -> due("spell", x.spell(-1, 0, odd, -1), -1));
    }
    stays("the kept answers", table, state, x -> answers(x, true));
    stays("out of what is so", table, state, x -> {
      for (int k = 0; k < x.about(1); k++) {
        due("out " + k, x.out(k, x.group(k, 2) == 1) ? 1 : 0, 0);
      }
    });
    stays("feed and end", table, state, x -> {
      due("feed", x.feed(1, 2, 3, 4, 5), 24);
      due("end", x.end(4), 4);
    });
    stays("witness, mend where it parts", table, state, x -> {
      if (x.parts() == 1) {
        due("witness", x.witness(), -1);
        due("mend", x.mend(0) + x.mend(1) + x.mend(2), -3);
      }
    });
  }

  private static void actsAreUndone(String table, int state) {
    for (int way = 0; way < 3; way++) {
      OneWaySpell x = inState(table, state);
      List<Long> before = answers(x, true);
      int cured = Integer.bitCount(Math.max(0, x.cure(way)));
      due("mend " + way, x.mend(way), cured == 0 ? -1 : cured);
      due("parts when mended " + way, x.parts(), 1);
      if (cured > 0) {
        due("undo of mend " + way, x.undo() ? 1 : 0, 1);
      }
      same("mend " + way + " undone in state " + state + " of " + table, answers(x, true), before);
    }
  }

  private static void outAndInAgain(String table, int state) {
    OneWaySpell x = inState(table, state);
    List<Long> before = answers(x, false);
    for (int k = 0; k < x.about(1); k++) {
      boolean wasOut = x.group(k, 2) == 1;
      int acts = x.about(5);
      due("turned " + k, x.out(k, !wasOut) ? 1 : 0, 1);
      due("turned back " + k, x.out(k, wasOut) ? 1 : 0, 1);
      due("acts of " + k, x.about(5), Math.min(12, acts + 2));
      same("OUT and in again " + k + " in state " + state + " of " + table, answers(x, false), before);
    }
  }

  /** Fourteen acts, of which the first two can't be undone; each undo leads to the state ahead of its act. */
  private static void twelveAreKept(String table) {
    OneWaySpell x = Tapes.of(table);
    if (x.about(1) == 0) {
      due("undo without acts", x.undo() ? 1 : 0, 0);
      return;
    }
    List<List<Long>> ahead = new ArrayList<>();
    for (int act = 0; act < 14; act++) {
      ahead.add(answers(x, false));
      boolean mended = act % 3 == 1 && x.mend(act / 3 % 3) > 0;
      int k = act % x.about(1);
      if (!mended) {
        due("act " + act, x.out(k, x.group(k, 2) == 0) ? 1 : 0, 1);
      }
      due("acts kept", x.about(5), Math.min(12, act + 1));
    }
    for (int act = 13; act >= 2; act--) {
      due("undo of act " + act + " of " + table, x.undo() ? 1 : 0, 1);
      same("act " + act + " undone, of " + table, answers(x, false), ahead.get(act));
      due("acts left", x.about(5), act - 2);
    }
    due("a thirteenth undo", x.undo() ? 1 : 0, 0);
    same("behind the thirteenth undo, of " + table, answers(x, false), ahead.get(2));
  }

  private static void aTableEndsAll(String table) {
    for (int state = 0; state < 6; state++) {
      OneWaySpell x = inState(TABLES[state], state);
      Tapes.table(x, FAULTS[state]);
      due("groups of " + table, Tapes.table(x, table), Tapes.of(table).about(1));
      due("fault of " + table, x.fault(0), 0);
      due("its place of " + table, x.fault(1), -1);
      due("undo behind a new table", x.undo() ? 1 : 0, 0);
      same(table + " told behind another", answers(x, true), answers(Tapes.of(table), true));
    }
  }
}
