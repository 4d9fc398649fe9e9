import java.io.IOException;
import java.lang.reflect.Constructor;
import java.lang.reflect.Field;
import java.lang.reflect.Method;
import java.lang.reflect.Modifier;
import java.nio.file.Files;
import java.nio.file.Path;
import java.util.HashSet;
import java.util.Set;
import java.util.TreeSet;
import java.util.regex.Matcher;
import java.util.regex.Pattern;

/** Whether the class has the document's face and no more, and its file keeps to LANGUAGE.md where that can be seen. */
public final class LanguageTest {
  private static final String[] FACE = {
    "boolean nth(int,long)", "boolean out(int,boolean)", "boolean undo()", "int about(int)", "int border(int,int,int)",
    "int borders(int)", "int cure(int)", "int doubt()", "int drawn(int,int)", "int end(int)", "int fault(int)",
    "int feed(int,int,int,int,int)", "int fool(int)", "int goes()", "int group(int,int)", "int letter(int)", "int look()",
    "int meets(int,int)", "int mend(int)", "int parts()", "int reading(int,int)", "int reads(int)", "int sounds()",
    "int spell(int,int,int,int)", "int table()", "int tail(int,int,int)", "int tails(int)", "int took(int,int)",
    "int witness()", "int word()", "long place()", "long readings()", "long share(int)", "long words(int,int)"
  };
  private static int wrong = 0;

  private static void must(boolean is, String what) {
    if (!is) {
      wrong++;
      System.out.println("not so: " + what);
    }
  }

  public static void main(String[] args) throws IOException {
    face();
    nested();
    source(Files.readString(Path.of(args.length > 0 ? args[0] : "src/main/java/OneWaySpell.java")));
    System.out.println(wrong == 0 ? "the language is kept" : wrong + " rules are broken");
    if (wrong != 0) {
      System.exit(1);
    }
  }

  private static void face() {
    Set<String> shown = new TreeSet<>();
    Set<String> publicNames = new HashSet<>();
    for (Method m : OneWaySpell.class.getDeclaredMethods()) {
      if (Modifier.isPublic(m.getModifiers())) {
        String s = m.toString().replace("public ", "").replace("OneWaySpell.", "");
        shown.add(s);
        publicNames.add(m.getName());
      }
    }
    must(shown.equals(new TreeSet<>(Set.of(FACE))), "the face is the document's, but it is " + shown);
    for (Method m : OneWaySpell.class.getDeclaredMethods()) {
      must(Modifier.isPublic(m.getModifiers()) || Modifier.isPrivate(m.getModifiers()), "public or private: " + m);
      must(Modifier.isPublic(m.getModifiers()) || !publicNames.contains(m.getName()), "a name of its own: " + m);
    }
    for (Class<?> c : OneWaySpell.class.getDeclaredClasses()) {
      for (Method m : c.getDeclaredMethods()) {
        must(!publicNames.contains(m.getName()), "a name of its own: " + m);
      }
    }
    for (Field f : OneWaySpell.class.getDeclaredFields()) {
      must(f.getName().equals("NONE") == Modifier.isPublic(f.getModifiers()), "only NONE is public: " + f);
      must(f.getName().equals("NONE") || Modifier.isPrivate(f.getModifiers()), "private: " + f);
    }
    Constructor<?>[] made = OneWaySpell.class.getDeclaredConstructors();
    must(made.length == 1 && Modifier.isPublic(made[0].getModifiers()) && made[0].getParameterCount() == 0, "one constructor");
    must(Modifier.isFinal(OneWaySpell.class.getModifiers()), "the class is final");
    must(OneWaySpell.class.getSuperclass() == Object.class, "it extends no class");
  }

  private static void nested() {
    Class<?>[] inside = OneWaySpell.class.getDeclaredClasses();
    must(inside.length < 12, "twelve classes at most");
    for (Class<?> c : inside) {
      must(Modifier.isStatic(c.getModifiers()) && Modifier.isPrivate(c.getModifiers()), "private and static: " + c);
      fieldsAndMethods(c);
    }
    fieldsAndMethods(OneWaySpell.class);
  }

  private static void fieldsAndMethods(Class<?> c) {
    int fields = 0;
    for (Field f : c.getDeclaredFields()) {
      if (Modifier.isStatic(f.getModifiers())) {
        must(Modifier.isFinal(f.getModifiers()), "static and final: " + f);
      } else {
        fields++;
      }
    }
    must(fields <= 20, "twenty fields at most: " + c);
    for (Method m : c.getDeclaredMethods()) {
      must(m.getParameterCount() <= 7, "seven parameters at most: " + m);
    }
  }

  private static void source(String text) {
    String code = text.replaceAll("(?s)/\\*.*?\\*/", "").replaceAll("//[^\n]*", "");
    String[] words = {"throw", "throws", "try", "catch", "finally", "synchronized", "assert", "package", "native", "volatile",
      "transient", "System.out", "Random", "Thread", "instanceof", "extends", "implements", "protected", "var", "equals",
      "hashCode", "toString"};
    for (String w : words) {
      must(!Pattern.compile("\\b" + Pattern.quote(w) + "\\b").matcher(code).find(), "without " + w);
    }
    must(!code.contains("->") && !code.contains("::"), "without lambdas");
    must(!code.contains("\""), "without texts");
    must(!Pattern.compile("[^\\x00-\\x7f]").matcher(text).find(), "signs up to 127 alone");
    Matcher imports = Pattern.compile("import ([^;]+);").matcher(code);
    while (imports.find()) {
      must(imports.group(1).equals("java.util.Arrays"), "only Arrays is imported: " + imports.group(1));
    }
    Matcher library = Pattern.compile("\\b(Arrays|System|Math|Integer|Long)\\.(\\w+)").matcher(code);
    Set<String> used = new TreeSet<>();
    while (library.find()) {
      used.add(library.group());
    }
    used.removeAll(Set.of("Arrays.fill", "Arrays.copyOf", "System.arraycopy", "Math.min", "Math.max", "Integer.bitCount"));
    must(used.isEmpty(), "nothing else of the library: " + used);
    must(!Pattern.compile("Arrays\\.fill\\([^;]*\\b(true|false)\\b").matcher(code).find(), "Arrays.fill over numbers alone");
    methodLengths(code);
  }

  private static void methodLengths(String code) {
    int depth = 0;
    int start = 0;
    String head = "";
    String[] lines = code.split("\n");
    for (int i = 0; i < lines.length; i++) {
      String line = lines[i];
      boolean begins = line.matches("\\s*(public|private).*\\(.*\\{\\s*");
      if (begins) {
        start = i;
        head = line.trim();
        depth = 0;
      }
      depth += line.length() - line.replace("{", "").length();
      depth -= line.length() - line.replace("}", "").length();
      if (!head.isEmpty() && depth == 0) {
        must(i - start < 60, "sixty lines at most: " + head);
        head = "";
      }
    }
  }
}
