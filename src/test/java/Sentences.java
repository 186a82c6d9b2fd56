import java.io.IOException;
import java.lang.reflect.InvocationTargetException;
import java.lang.reflect.Method;
import java.nio.file.Files;
import java.nio.file.Path;
import java.util.ArrayList;
import java.util.HashSet;
import java.util.List;
import java.util.Set;

/**
 * Tests that each name a promise and quote the sentence of ../shared/DOC.md that they are for. The quote must stand
 * in the promise's own section or ahead of promise 1, and no sentence of the document may be without a test.
 *
 * A test is a script of calls on a new object: "level(28)=-6 count(2)=0"; a call without "=" may answer anything;
 * 'l1;' tells these letters and calls roof(); "7*row(1)=7" calls seven times, the last answer is due; MIN and MAX
 * are the least and the greatest int.
 */
final class Sentences {
  private static final int PROMISES = 28;
  private static final int MOST_CALLS = 512;

  private final String[] sections = new String[PROMISES + 1]; // 0: all ahead of promise 1
  private final boolean[][] quoted = new boolean[PROMISES + 1][];
  private final int[] testsOf = new int[PROMISES + 1];
  private final Set<String> names = new HashSet<>();
  private String name = "";
  private int tests = 0;
  private int wrong = 0;

  Sentences(Path document) throws IOException {
    String all = Files.readString(document).replaceAll("\\s+", " ");
    String[] parts = all.substring(0, all.indexOf("## Not promised")).split("## Promise ");
    if (parts.length != PROMISES + 1) throw new IllegalStateException("promises: " + (parts.length - 1));
    for (int p = 0; p <= PROMISES; p++) {
      sections[p] = p == 0 ? parts[0] : parts[p].substring(parts[p].indexOf("`: ") + 3);
      quoted[p] = new boolean[sections[p].length()];
    }
  }

  // ---- a test ----

  /** A test of its own begins: for this promise, this sentence, and this case that the sentence names. */
  void of(int promise, String sentence, String which) {
    name = "promise " + promise + ", \"" + sentence + "\" (" + which + ")";
    tests++;
    testsOf[promise]++;
    if (!names.add(name)) fault("there are two such tests");
    if (!mark(promise, sentence) && !mark(0, sentence)) fault("the document does not say so there");
  }

  private boolean mark(int section, String sentence) {
    int start = sections[section].indexOf(sentence);
    for (int i = start; start >= 0 && i < start + sentence.length(); i++) quoted[section][i] = true;
    return start >= 0;
  }

  void due(String call, int got, int want) {
    if (got != want) fault(call + " answered " + got + ", due is " + want);
  }

  private void fault(String what) {
    wrong++;
    System.out.println(name + ": " + what);
  }

  /** A test that is a script. */
  void test(int promise, String sentence, String which, String script) {
    of(promise, sentence, which);
    run(new EachBearsPillar(), script);
  }

  /** A test that the calls of a script change nothing at all, but for how many REFUSALS there were. */
  void unchanged(int promise, String sentence, String which, String before, String script) {
    of(promise, sentence, which);
    EachBearsPillar touched = new EachBearsPillar();
    EachBearsPillar spared = new EachBearsPillar();
    run(touched, before + " " + script);
    run(spared, before);
    List<String> calls = looks();
    for (String call : calls) due("after " + script + ", " + call, one(touched, call), one(spared, call));
  }

  /** All that can be seen of an object, told loads and letters and image, too. */
  private static List<String> looks() {
    List<String> calls = new ArrayList<>(List.of("slacked", "count(6)", "judge", "count(7)", "roof"));
    for (int time = 0; time < 2; time++) {
      for (int what = 0; what < 6; what++) calls.add("count(" + what + ")");
      for (int k = 0; k < 7; k++) {
        for (int what = 0; what < 8; what++) calls.add("bearer(" + k + "," + what + ")");
        calls.add("load(" + k + ")");
      }
      calls.addAll(List.of("holds", "sag", "levels", "blocks", "swap", "needed", "seeds(30,7)"));
      for (int p = -1; p < 7; p++) calls.add("orders(" + p + ")");
      for (int s = 0; s < 6; s++) calls.add("more(" + s + ")");
      calls.addAll(List.of("way(0)", "way(9)", "reach(2)", "reach(40)", "lowest(0,40)", "lowest(9,40)"));
      for (int s = 0; s < 6; s++) calls.add("span(" + s + ",0)");
      for (int p = 0; p < 16; p++) calls.add("ground(" + p + ",0)");
      calls.add("on");
    }
    return calls;
  }

  // ---- a script ----

  void run(EachBearsPillar x, String script) {
    int calls = 0;
    for (String token : tokens(script)) {
      int end = token.endsWith("'") ? -1 : token.indexOf('=', token.lastIndexOf('\'') + 1);
      String call = end < 0 ? token : token.substring(0, end);
      int times = 1;
      if (Character.isDigit(call.charAt(0))) {
        times = Integer.parseInt(call.substring(0, call.indexOf('*')));
        call = call.substring(call.indexOf('*') + 1);
      }
      int answer = 0;
      for (int i = 0; i < times; i++) answer = one(x, call);
      if (end >= 0) due(token.substring(0, end), answer, number(token.substring(end + 1)));
      calls += times * (call.charAt(0) == '\'' ? call.length() - 1 : 1);
    }
    if (calls > MOST_CALLS) fault("a script of " + calls + " calls");
  }

  private static List<String> tokens(String script) {
    List<String> tokens = new ArrayList<>();
    StringBuilder token = new StringBuilder();
    boolean inText = false;
    for (char c : (script + " ").toCharArray()) {
      if (c == '\'') inText = !inText;
      if (c != ' ' || inText) {
        token.append(c);
      } else if (token.length() > 0) {
        tokens.add(token.toString());
        token.setLength(0);
      }
    }
    if (inText) throw new IllegalArgumentException("a text without end: " + script);
    return tokens;
  }

  private static int number(String text) {
    if (text.equals("MIN")) return Integer.MIN_VALUE;
    return text.equals("MAX") ? Integer.MAX_VALUE : Integer.parseInt(text);
  }

  private int one(EachBearsPillar x, String call) {
    if (call.charAt(0) == '\'') return tell(x, call.substring(1, call.length() - 1));
    int open = call.indexOf('(');
    String[] texts = open < 0 ? new String[0] : call.substring(open + 1, call.length() - 1).split(",");
    Object[] numbers = new Object[texts.length];
    for (int i = 0; i < texts.length; i++) numbers[i] = number(texts[i]);
    return answer(x, open < 0 ? call : call.substring(0, open), numbers);
  }

  static int tell(EachBearsPillar x, String text) {
    for (int i = 0; i < text.length(); i++) x.letter(text.charAt(i));
    return x.roof();
  }

  private int answer(EachBearsPillar x, String method, Object[] numbers) {
    for (Method m : EachBearsPillar.class.getMethods()) {
      if (!m.getName().equals(method) || m.getParameterCount() != numbers.length) continue;
      try {
        return (Integer) m.invoke(x, numbers);
      } catch (InvocationTargetException | IllegalAccessException e) {
        fault(method + " threw " + e.getCause());
        return Integer.MIN_VALUE;
      }
    }
    throw new IllegalArgumentException("no such call: " + method);
  }

  // ---- the end ----

  /** How many tests were wrong, a sentence without a test among them. */
  int end() {
    name = "the tests";
    for (int p = 1; p <= PROMISES; p++) if (testsOf[p] == 0) fault("none is for promise " + p);
    for (int p = 1; p <= PROMISES; p++) mustBeQuoted(p, 0, sections[p].length());
    int life = sections[0].indexOf("An object is used");
    mustBeQuoted(0, life, sections[0].indexOf(" ## The public face"));
    mustBeQuoted(0, sections[0].indexOf("## Terms") + 8, sections[0].length());
    System.out.println(tests + " tests of sentences");
    return wrong;
  }

  private void mustBeQuoted(int section, int from, int to) {
    StringBuilder left = new StringBuilder();
    for (int i = from; i < to; i++) left.append(quoted[section][i] ? '|' : sections[section].charAt(i));
    String rest = left.toString().replace("```text", "").replace("```", "").replace("==== II.", "");
    for (String piece : rest.split("\\|+")) {
      if (!piece.isBlank()) fault("none quotes, of section " + section + ": " + piece);
    }
  }
}
