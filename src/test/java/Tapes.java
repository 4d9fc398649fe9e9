/** Puts texts on an object's tape, and reads what it holds back as texts. */
final class Tapes {
  private Tapes() {
  }

  static void put(OneWaySpell x, String text) {
    x.end(0);
    for (int at = 0; at < text.length(); at += 20) {
      x.feed(four(text, at), four(text, at + 4), four(text, at + 8), four(text, at + 12), four(text, at + 16));
    }
    x.end(text.length());
  }

  private static int four(String text, int at) {
    int number = 0;
    for (int i = at; i < at + 4; i++) {
      number = number << 8 | (i < text.length() ? text.charAt(i) & 255 : ' ');
    }
    return number;
  }

  static int table(OneWaySpell x, String text) {
    put(x, text);
    return x.table();
  }

  static int word(OneWaySpell x, String text) {
    put(x, text);
    return x.word();
  }

  static OneWaySpell of(String text) {
    OneWaySpell x = new OneWaySpell();
    if (table(x, text) < 0) {
      throw new IllegalStateException("no table: " + text);
    }
    return x;
  }

  static String theWord(OneWaySpell x) {
    StringBuilder b = new StringBuilder();
    for (int i = 0; i < x.about(4); i++) {
      b.append((char) x.letter(i));
    }
    return b.toString();
  }

  static String group(OneWaySpell x, int k) {
    StringBuilder b = new StringBuilder();
    for (int i = 0; i < x.group(k, 1); i++) {
      b.append((char) x.group(k, 10 + i));
    }
    return b.toString();
  }

  static String tails(OneWaySpell x, int round) {
    StringBuilder b = new StringBuilder();
    for (int k = 0; k < x.tails(round); k++) {
      if (k > 0) {
        b.append(' ');
      }
      for (int i = 0; x.tail(round, k, i) != -1; i++) {
        b.append((char) x.tail(round, k, i));
      }
    }
    return b.toString();
  }

  static String borders(OneWaySpell x, int n) {
    StringBuilder b = new StringBuilder();
    for (int k = 0; k < x.borders(n); k++) {
      if (k > 0) {
        b.append(' ');
      }
      for (int i = 0; x.border(n, k, i) != -1; i++) {
        b.append((char) x.border(n, k, i));
      }
    }
    return b.toString();
  }

  static String reading(OneWaySpell x, int i) {
    StringBuilder b = new StringBuilder();
    for (int k = 0; x.reading(i, k) != -1; k++) {
      if (k > 0) {
        b.append(' ');
      }
      b.append(x.reading(i, k));
    }
    return b.toString();
  }

  static String taken(OneWaySpell x, int kind) {
    StringBuilder b = new StringBuilder();
    for (int k = 0; x.took(kind, k) != -1; k++) {
      if (k > 0) {
        b.append(' ');
      }
      b.append(x.took(kind, k));
    }
    return b.toString();
  }
}
