import java.io.IOException;
import java.lang.reflect.Constructor;
import java.lang.reflect.Field;
import java.lang.reflect.Method;
import java.lang.reflect.Modifier;
import java.nio.file.Files;
import java.nio.file.Path;
import java.util.Map;
import java.util.Set;
import java.util.TreeMap;
import java.util.TreeSet;
import java.util.regex.Matcher;
import java.util.regex.Pattern;

/** The face of the class, and those rules of ../shared/LANGUAGE.md that can be read off the source. */
public final class LanguageTest {
  private static final String[] FACE = {
    "letter(int)", "roof()", "bearer(int,int)", "span(int,int)", "ground(int,int)", "level(int)", "block(int,int)",
    "at(int)", "load(int)", "holds()", "sag()", "levels()", "blocks()", "swap()", "orders(int)", "needed()", "more(int)",
    "row(int)", "slacked()", "way(int)", "reach(int)", "lowest(int,int)", "judge()", "seeds(int,int)", "image()", "on()",
    "count(int)"};
  private static int wrong = 0;

  private static void must(boolean kept, String what) {
    if (!kept) {
      wrong++;
      System.out.println("LANGUAGE: " + what);
    }
  }

  public static void main(String[] args) throws IOException {
    face();
    source(Files.readString(Path.of("src/main/java/EachBearsPillar.java")));
    if (wrong > 0) System.exit(1);
  }

  private static void face() {
    Class<?> type = EachBearsPillar.class;
    must(Modifier.isPublic(type.getModifiers()) && Modifier.isFinal(type.getModifiers()), "public and final");
    Constructor<?>[] constructors = type.getDeclaredConstructors();
    must(constructors.length == 1 && constructors[0].getParameterCount() == 0
        && Modifier.isPublic(constructors[0].getModifiers()), "one public constructor");
    Set<String> names = new TreeSet<>();
    Set<String> due = new TreeSet<>(Set.of(FACE));
    Set<String> faceNames = new TreeSet<>();
    for (String one : FACE) faceNames.add(one.substring(0, one.indexOf('(')));
    for (Method m : type.getDeclaredMethods()) {
      if (Modifier.isPrivate(m.getModifiers())) {
        must(!faceNames.contains(m.getName()), "private method named as a public one: " + m);
        continue;
      }
      must(Modifier.isPublic(m.getModifiers()) && m.getReturnType() == int.class, "not of the face: " + m);
      StringBuilder parameters = new StringBuilder();
      for (Class<?> p : m.getParameterTypes()) parameters.append(parameters.length() > 0 ? "," : "").append(p);
      names.add(m.getName() + "(" + parameters + ")");
    }
    must(names.equals(due), "the face is " + names);
    fields(type);
    int classes = 1;
    for (Class<?> inner : type.getDeclaredClasses()) {
      classes++;
      must(Modifier.isStatic(inner.getModifiers()) && !Modifier.isPublic(inner.getModifiers()), "static inside: " + inner);
      fields(inner);
      for (Method m : inner.getDeclaredMethods()) {
        must(!faceNames.contains(m.getName()), "method named as a public one: " + m);
        must(m.getParameterCount() <= 7, "parameters: " + m);
      }
    }
    must(classes <= 12, "classes: " + classes);
  }

  private static void fields(Class<?> type) {
    int own = 0;
    for (Field f : type.getDeclaredFields()) {
      must(Modifier.isPrivate(f.getModifiers()), "private: " + f);
      if (Modifier.isStatic(f.getModifiers())) must(Modifier.isFinal(f.getModifiers()), "final: " + f);
      else own++;
    }
    must(own <= 20, "fields of " + type + ": " + own);
  }

  private static void source(String raw) {
    for (int i = 0; i < raw.length(); i++) must(raw.charAt(i) < 128, "a sign above 127 at " + i);
    String text = raw.replaceAll("(?s)/\\*.*?\\*/", " ").replaceAll("//[^\n]*", "");
    String code = text.replaceAll("\"[^\"\n]*\"", "\"\"").replaceAll("'[^']'", "' '");
    String[] words = {"throw", "throws", "try", "catch", "finally", "synchronized", "assert", "import", "package", "static \\{",
      "->", "::", "Exact", "hashCode", "toString", "record", "volatile", "native", "transient", "System\\.(?!arraycopy)",
      "Random", "Thread", "float", "double", "protected", "var"};
    for (String word : words) {
      String wall = Character.isLetter(word.charAt(0)) && word.matches("[A-Za-z]+") ? "\\b" : "";
      must(!Pattern.compile(wall + word + wall).matcher(code).find(), "the source has " + word);
    }
    Matcher brackets = Pattern.compile("[A-Za-z_)\\]]\\[(?!\\])").matcher(code);
    int indexed = 0;
    while (brackets.find()) {
      String line = code.substring(code.lastIndexOf('\n', brackets.start()) + 1, code.indexOf('\n', brackets.start()));
      if (!line.contains("= new int[")) indexed++;
    }
    must(indexed == 4, "arrays are read and written in cell, setCell and copyCells alone, not " + indexed + " times");
    lengths(text);
    depths(code);
  }

  /** No method calls itself by any way, and calls go at most eight deep. */
  private static void depths(String code) {
    Map<String, Set<String>> calls = new TreeMap<>();
    Map<String, String> bodies = new TreeMap<>();
    Matcher m = Pattern.compile("\\n +(?:public|private) (?:static )?(?:\\w+(?:\\[\\])? )?(\\w+)\\([^)]*\\) \\{").matcher(code);
    while (m.find()) {
      int end = m.end();
      for (int open = 1; open > 0; end++) open += code.charAt(end) == '{' ? 1 : code.charAt(end) == '}' ? -1 : 0;
      must(bodies.put(m.group(1), code.substring(m.end(), end)) == null, "two methods named " + m.group(1));
    }
    for (String name : bodies.keySet()) {
      Set<String> called = new TreeSet<>();
      Matcher c = Pattern.compile("\\b(\\w+)\\(").matcher(bodies.get(name));
      while (c.find()) if (bodies.containsKey(c.group(1))) called.add(c.group(1));
      calls.put(name, called);
    }
    must(bodies.size() > 60, "methods found: " + bodies.size());
    int deepest = 0;
    for (String name : bodies.keySet()) deepest = Math.max(deepest, depth(name, calls, 0));
    must(deepest <= 8, "calls go " + deepest + " deep");
    must(deepest >= 6, "calls seen only " + deepest + " deep");
  }

  private static int depth(String name, Map<String, Set<String>> calls, int open) {
    if (open > 20) return 1;
    int deepest = 0;
    for (String next : calls.get(name)) deepest = Math.max(deepest, depth(next, calls, open + 1));
    return deepest + 1;
  }

  /** Methods of some sixty lines at most; what a call makes is nothing: new stands in constructors alone. */
  private static void lengths(String text) {
    String name = "";
    int start = 0;
    String[] lines = text.split("\n");
    for (int i = 0; i < lines.length; i++) {
      Matcher m = Pattern.compile("^ +(?:public|private) (?!.* class )[^=;]*\\b(\\w+)\\([^;]*\\{$").matcher(lines[i]);
      if (m.find()) {
        name = m.group(1);
        start = i;
      }
      must(i - start <= 60 || name.isEmpty() || !lines[i].matches(" +return.*"), "long method: " + name);
      if (lines[i].contains("new ")) must(Character.isUpperCase(name.charAt(0)), "new in " + name);
    }
  }
}
