import java.lang.management.ManagementFactory;
import java.util.Random;

/** Runs of 512 calls with any arguments on big tables: none throws, like runs answer alike, and little is made. */
public final class StormTest {
  private static final int RUNS = 300;
  private static final int CALLS = 512;
  private static final long BYTES_MOST = 4_000_000;
  private static final int[] EDGES = {0, 1, 2, 3, 4, 5, 6, 7, 10, 11, 12, 13, 14, 15, 16, 17, 40, 41, 600, 601,
      -1, -2, Integer.MAX_VALUE, Integer.MIN_VALUE};

  public static void main(String[] args) {
    long most = 0;
    for (int run = 0; run < RUNS; run++) {
      long first = answers(run);
      com.sun.management.ThreadMXBean made = (com.sun.management.ThreadMXBean) ManagementFactory.getThreadMXBean();
      long before = made.getCurrentThreadAllocatedBytes();
      long second = answers(run);
      most = Math.max(most, made.getCurrentThreadAllocatedBytes() - before);
      if (first != second) {
        System.out.println("run " + run + " answers otherwise when it is called again");
        System.exit(1);
      }
    }
    System.out.println("no call threw; a run made " + most + " bytes at most");
    if (most > BYTES_MOST) {
      System.exit(1);
    }
  }

  private static long answers(int run) {
    Random chance = new Random(run);
    OneWaySpell x = new OneWaySpell();
    long sum = 0;
    String text = bigTable(chance);
    int calls = 0;
    for (int at = 0; at < text.length(); at += 20) {
      x.feed(four(text, at), four(text, at + 4), four(text, at + 8), four(text, at + 12), four(text, at + 16));
      calls++;
    }
    x.end(text.length());
    if (x.table() < 1) {
      throw new IllegalStateException(text);
    }
    for (calls += 2; calls < CALLS; calls++) {
      sum = sum * 31 + call(x, chance);
    }
    return sum;
  }

  private static int four(String text, int at) {
    int number = 0;
    for (int i = at; i < at + 4; i++) {
      number = number << 8 | (i < text.length() ? text.charAt(i) : ' ');
    }
    return number;
  }

  private static String bigTable(Random chance) {
    int letters = 1 + chance.nextInt(chance.nextInt(4) == 0 ? 26 : 3);
    StringBuilder b = new StringBuilder();
    java.util.Set<String> rows = new java.util.LinkedHashSet<>();
    for (int i = 0; i < 200 && rows.size() < 14; i++) {
      StringBuilder row = new StringBuilder();
      int n = 1 + chance.nextInt(6);
      for (int j = 0; j < n; j++) {
        row.append((char) ('a' + chance.nextInt(letters)));
      }
      rows.add(row.toString());
    }
    int sound = 0;
    boolean open = false;
    for (String row : rows) {
      if (open && chance.nextInt(3) == 0 && sound < 10) {
        b.append(';');
        open = false;
      }
      if (!open) {
        b.append("sound ").append((char) ('a' + sound)).append('=').append(row);
        sound++;
        open = true;
      } else {
        b.append('|').append(row);
      }
    }
    return b.append(';').toString();
  }

  private static int any(Random chance) {
    int how = chance.nextInt(10);
    return how == 0 ? chance.nextInt() : how < 4 ? EDGES[chance.nextInt(EDGES.length)] : chance.nextInt(14);
  }

  private static long call(OneWaySpell x, Random chance) {
    int a = any(chance);
    int b = any(chance);
    int c = any(chance);
    int d = any(chance);
    boolean is = chance.nextBoolean();
    switch (chance.nextInt(40)) {
      case 0: return x.feed(a, b, c, d, any(chance));
      case 1: return x.end(a);
      case 2: return chance.nextInt(20) == 0 ? x.table() : 0;
      case 3: return x.fault(a);
      case 4: return x.group(a, b);
      case 5: return x.about(a);
      case 6: return x.meets(a, b);
      case 7: return x.parts();
      case 8: return x.tails(a);
      case 9: return x.tail(a, b, c);
      case 10: return x.doubt();
      case 11: return x.witness();
      case 12: return x.look();
      case 13: return x.share(a);
      case 14: return x.word();
      case 15: return x.letter(a);
      case 16: return x.readings();
      case 17: return x.reading(a, b);
      case 18: return x.sounds();
      case 19: return x.reads(a);
      case 20: return x.took(a, b);
      case 21: return x.fool(a);
      case 22: return x.goes();
      case 23: return x.spell(a, b, c, d);
      case 24: return x.spell(0, is ? 0 : 1, -1, -1);
      case 25: return x.drawn(a, b);
      case 26: return x.words(a, b);
      case 27: return x.nth(a, b) ? 1 : 0;
      case 28: return x.nth(10, chance.nextLong()) ? 1 : 0;
      case 29: return x.place();
      case 30: return x.borders(a);
      case 31: return x.border(a, b, c);
      case 32: return x.cure(a);
      case 33: return x.mend(a);
      case 34: return x.undo() ? 1 : 0;
      case 35: return x.words(10, 2);
      case 36: return x.spell(0, 0, 0, 0);
      default: return x.out(a, is) ? 1 : 0;
    }
  }
}
