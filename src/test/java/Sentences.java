import java.io.IOException;
import java.nio.file.Files;
import java.nio.file.Path;
import java.util.HashMap;
import java.util.Map;

/**
 * Sentences of the document and what is asked under each. A sentence is quoted as it stands there,
 * so a test can't go on about words that the document doesn't have.
 */
final class Sentences {
  static final int TERMS = 0;
  /** What the document says ahead of its terms. */
  static final int PREFACE = -1;
  /** Where one of these is left in a promise when all quotes are taken out, a case at an edge has no test. */
  private static final String[] EDGES = {
    "NONE", "false", "-2", "stays", "nothing", "none", "another", "empty", "more than", "without", "too"
  };

  private final String document;
  private final Map<Integer, String> left = new HashMap<>();
  private int promise = TERMS;
  private String sentence = "";
  private int asked = 0;
  private int sentences = 0;
  private int wrong = 0;

  Sentences() throws IOException {
    document = Files.readString(Path.of("../shared/DOC.md")).replaceAll("\\s+", " ");
  }

  private String section(int number) {
    String head = number == PREFACE ? "## What it is" : number == TERMS ? "## Terms" : "## Promise " + number + ":";
    int at = document.indexOf(head);
    if (at < 0) {
      return "";
    }
    int stop = document.indexOf("## ", at + head.length());
    return document.substring(at + head.length(), stop < 0 ? document.length() : stop);
  }

  /** From here on answers are due by these words of a promise (or of the terms). */
  void says(int number, String words) {
    closeSentence();
    promise = number;
    sentence = words;
    sentences++;
    String before = left.computeIfAbsent(number, this::section);
    if (!section(number).contains(words)) {
      fail("the document does not say so");
    }
    left.put(number, before.replace(words, "#"));
  }

  private void closeSentence() {
    if (sentences > 0 && asked == 0) {
      fail("nothing is asked");
    }
    asked = 0;
  }

  private void fail(String what) {
    wrong++;
    System.out.println((promise > 0 ? "promise " + promise : "terms") + ", \"" + sentence + "\": " + what);
  }

  void due(String what, long got, long want) {
    asked++;
    if (got != want) {
      fail(what + " answered " + got + ", due is " + want);
    }
  }

  void due(String what, boolean got, boolean want) {
    due(what, got ? 1 : 0, want ? 1 : 0);
  }

  void due(String what, String got, String want) {
    asked++;
    if (!got.equals(want)) {
      fail(what + " is " + got + ", due is " + want);
    }
  }

  /** Ends a test that goes through these promises: each sentence of theirs that names an edge must have been quoted. */
  void finish(int first, int last) {
    closeSentence();
    for (int n = first; n <= last; n++) {
      String rest = left.getOrDefault(n, section(n));
      for (String edge : EDGES) {
        if (rest.matches(".*(?<!\\w)" + edge + "(?!\\w).*")) {
          wrong++;
          System.out.println("promise " + n + " has words without a test: " + rest.trim());
          break;
        }
      }
    }
    System.out.println(sentences + " sentences; " + wrong + " faults");
    if (wrong != 0) {
      System.exit(1);
    }
  }
}
