import java.lang.reflect.Method;
import java.nio.file.Files;
import java.nio.file.Path;
import java.util.regex.Matcher;
import java.util.regex.Pattern;

/** README.md: the calls in its examples answer as it says, and it leaves out no call. It runs from the project's root. */
public final class ReadmeTest {
  private static final Pattern TOLD = Pattern.compile("tell\\(x, \"([^\"]*)\"\\);\\s*// (-?\\d+)\\b.*");
  private static final Pattern CALL = Pattern.compile("x\\.(\\w+)\\(([-0-9, ]*)\\);\\s*// (-?\\d+)\\b.*");
  private static final Pattern EXAMPLE = Pattern.compile("(?s)```java\n(.*?)```");
  private static int wrong = 0;
  private static int answers = 0;

  public static void main(String[] args) throws Exception {
    String page = Files.readString(Path.of("README.md"));
    Matcher examples = EXAMPLE.matcher(page);
    while (examples.find()) example(examples.group(1));
    if (answers < 30) fault("only " + answers + " answers found");
    for (Method m : EachBearsPillar.class.getDeclaredMethods()) {
      boolean open = (m.getModifiers() & java.lang.reflect.Modifier.PUBLIC) != 0;
      if (open && !page.contains("`" + m.getName() + "(")) fault("no word of " + m.getName());
    }
    if (wrong > 0) System.exit(1);
  }

  /** A new object stands at the line that makes it; a line behind which an answer is told must be one that can be called. */
  private static void example(String code) throws ReflectiveOperationException {
    EachBearsPillar x = null;
    for (String line : code.split("\n")) {
      String bare = line.strip();
      if (bare.equals("EachBearsPillar x = new EachBearsPillar();")) x = new EachBearsPillar();
      if (!bare.contains("//")) continue;
      Matcher told = TOLD.matcher(bare);
      Matcher call = CALL.matcher(bare);
      if (told.matches()) due(bare, Sentences.tell(x, told.group(1)), told.group(2));
      else if (call.matches()) due(bare, answer(x, call.group(1), call.group(2)), call.group(3));
      else fault("can't be called: " + bare);
    }
  }

  private static int answer(EachBearsPillar x, String name, String numbers) throws ReflectiveOperationException {
    String[] texts = numbers.isBlank() ? new String[0] : numbers.split(", ");
    Class<?>[] types = new Class<?>[texts.length];
    Object[] arguments = new Object[texts.length];
    for (int i = 0; i < texts.length; i++) {
      types[i] = int.class;
      arguments[i] = Integer.parseInt(texts[i]);
    }
    return (Integer) EachBearsPillar.class.getMethod(name, types).invoke(x, arguments);
  }

  private static void due(String line, int got, String want) {
    answers++;
    if (got != Integer.parseInt(want)) fault(line + " answered " + got);
  }

  private static void fault(String what) {
    wrong++;
    System.out.println("README: " + what);
  }
}
