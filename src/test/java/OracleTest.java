import java.util.Random;

/** Long runs of drawn calls: the class and the oracle must answer alike, call by call. */
public final class OracleTest {
  private static final int RUNS = 1500;
  private static final int CALLS = 512;
  private static final int[] EDGES = {
    -1, -2, 7, 6, 8, 9, 10, 15, 16, 27, 28, 30, 31, 40, 41, 96, 99, 100, 255, 256, 400, 401,
    Integer.MIN_VALUE, Integer.MAX_VALUE};

  private final Random random;
  private final EachBearsPillar real = new EachBearsPillar();
  private final Oracle oracle = new Oracle();
  private final StringBuilder story = new StringBuilder();
  private int calls;
  private boolean wrong;
  private final int strong;
  private final int heavy;
  private final int high;

  private OracleTest(int seed) {
    random = new Random(seed);
    strong = new int[] {99, 60, 20, 9}[random.nextInt(4)];
    heavy = new int[] {99, 40, 12, 4}[random.nextInt(4)];
    high = new int[] {9, 4, 2, 1}[random.nextInt(4)];
  }

  public static void main(String[] args) {
    int wrong = 0;
    for (int seed = 1; seed <= RUNS && wrong < 5; seed++) {
      OracleTest run = new OracleTest(seed);
      run.go();
      if (run.wrong) {
        wrong++;
        System.out.println("seed " + seed + ": " + run.story);
      }
    }
    System.out.println("seen: " + ANSWERS);
    if (wrong > 0) System.exit(1);
  }

  private static final java.util.TreeMap<String, Integer> ANSWERS = new java.util.TreeMap<>();

  private void due(String call, int got, int want) {
    calls++;
    if (story.length() > 4000) story.delete(0, 2000);
    story.append(call).append('=').append(got).append(' ');
    if (got != want) {
      wrong = true;
      story.append(" <- due is ").append(want);
    }
    String kind = call.substring(0, call.indexOf('(')) + (want == -9 ? " none" : want < 0 ? " no" : "");
    ANSWERS.merge(kind, 1, Integer::sum);
  }

  private void go() {
    while (calls + 100 < CALLS && !wrong) {
      int draw = random.nextInt(100);
      if (draw < 3 || calls == 0) write(text());
      else if (draw < 30) change();
      else if (draw < 34) tellLoads();
      else ask();
    }
  }

  private int near(int most) {
    int draw = random.nextInt(60);
    if (draw == 0) return EDGES[random.nextInt(EDGES.length)];
    if (draw == 1) return most;
    if (draw == 2) return most + 1;
    if (draw == 3) return -1;
    return random.nextInt(most + 1);
  }

  private void write(String text) {
    for (int i = 0; i < text.length() && !wrong; i++) letter(text.charAt(i));
    if (random.nextInt(40) == 0) letter(near(255));
    due("roof()", real.roof(), oracle.roof());
  }

  private void letter(int c) {
    due("letter(" + c + ")", real.letter(c), oracle.letter(c));
  }

  private String text() {
    StringBuilder s = new StringBuilder();
    int bearers = oracle.count(0) < 3 && random.nextInt(4) > 0 ? random.nextInt(8 - oracle.count(0)) : 0;
    for (int i = 0; i < bearers; i++) s.append(bearer());
    int statements = random.nextInt(8);
    for (int i = 0; i < statements; i++) s.append(statement());
    int draw = random.nextInt(20);
    if (draw < 3 && s.length() > 0) {
      int place = random.nextInt(s.length());
      char sign = "bctslhgk0123456789,;; x".charAt(random.nextInt(22));
      if (draw == 0) s.insert(place, sign);
      if (draw == 1) s.setCharAt(place, sign);
      if (draw == 2) s.deleteCharAt(place);
    }
    if (s.length() > 97) s.setLength(97);
    return s.toString();
  }

  private String statement() {
    int draw = random.nextInt(16);
    if (draw < 4) return bearer();
    if (draw < 12) return "s" + (random.nextInt(30) == 0 ? 6 : random.nextInt(6)) + "," + number(random.nextInt(heavy + 1), 0) + ";";
    if (draw < 14) return "g" + number(random.nextInt(16), 20) + "," + random.nextInt(high + 1) + ";";
    if (draw < 15) return "l" + number(random.nextInt(high + 2), 30) + ";";
    return "k" + random.nextInt(8) + "," + random.nextInt(10) + ";";
  }

  private String bearer() {
    int kind = random.nextInt(9);
    return "b" + "bctslhbtb".charAt(kind) + number(1 + random.nextInt(strong), 40) + "," + random.nextInt(high + 1) + ";";
  }

  private String number(int n, int wildOneIn) {
    if (wildOneIn > 0 && random.nextInt(wildOneIn) == 0) n = random.nextInt(100);
    return n < 10 && random.nextInt(4) == 0 ? "0" + n : "" + n;
  }

  private void change() {
    int a;
    int v;
    switch (random.nextInt(8)) {
      case 0: case 1:
        a = near(5); v = random.nextInt(20) == 0 ? near(99) : random.nextInt(heavy + 1);
        due("span(" + a + "," + v + ")", real.span(a, v), oracle.span(a, v));
        break;
      case 2:
        a = near(15); v = random.nextInt(20) == 0 ? near(9) : random.nextInt(high + 1);
        due("ground(" + a + "," + v + ")", real.ground(a, v), oracle.ground(a, v));
        break;
      case 3:
        v = random.nextInt(8) == 0 ? near(27) : random.nextInt(2 * high + 1);
        due("level(" + v + ")", real.level(v), oracle.level(v));
        break;
      case 4:
        a = near(6); v = random.nextInt(4) == 0 ? near(9) : 0;
        due("block(" + a + "," + v + ")", real.block(a, v), oracle.block(a, v));
        break;
      case 5:
        v = random.nextInt(3) == 0 ? near(15) : random.nextInt(5);
        due("at(" + v + ")", real.at(v), oracle.at(v));
        break;
      case 6:
        if (random.nextInt(3) == 0) due("image()", real.image(), oracle.image());
        break;
      default:
        if (random.nextInt(5) == 0) due("on()", real.on(), oracle.on());
    }
  }

  private void tellLoads() {
    int size = oracle.count(0) + (random.nextInt(6) == 0 ? 1 - random.nextInt(3) : 0);
    for (int i = 0; i < size; i++) {
      int load = i < oracle.count(0) ? oracle.load(i) : 0;
      int v = random.nextInt(25) == 0 ? near(400) : Math.min(load, 400);
      due("row(" + v + ")", real.row(v), oracle.row(v));
    }
    if (random.nextBoolean()) due("slacked()", real.slacked(), oracle.slacked());
    if (random.nextBoolean()) slackAndAsk();
    if (random.nextInt(4) > 0) due("judge()", real.judge(), oracle.judge());
  }

  /** Lets one stand too low and asks whether the old loads are seen. */
  private void slackAndAsk() {
    int v = random.nextInt(2 * high + 1);
    due("level(" + v + ")", real.level(v), oracle.level(v));
    due("slacked()", real.slacked(), oracle.slacked());
  }

  private void ask() {
    int a;
    int b;
    switch (random.nextInt(19)) {
      case 0: case 1:
        a = near(6); b = near(7);
        due("bearer(" + a + "," + b + ")", real.bearer(a, b), oracle.bearer(a, b));
        break;
      case 2: a = near(6); due("load(" + a + ")", real.load(a), oracle.load(a)); break;
      case 3: due("holds()", real.holds(), oracle.holds()); break;
      case 4: due("sag()", real.sag(), oracle.sag()); break;
      case 5: due("levels()", real.levels(), oracle.levels()); break;
      case 6: due("blocks()", real.blocks(), oracle.blocks()); break;
      case 7: due("swap()", real.swap(), oracle.swap()); break;
      case 8:
        if (random.nextInt(2) > 0) break;
        a = near(7) - 1;
        due("orders(" + a + ")", real.orders(a), oracle.orders(a));
        break;
      case 9: due("needed()", real.needed(), oracle.needed()); break;
      case 10: a = near(5); due("more(" + a + ")", real.more(a), oracle.more(a)); break;
      case 11: a = near(15); due("way(" + a + ")", real.way(a), oracle.way(a)); break;
      case 12: a = near(40); due("reach(" + a + ")", real.reach(a), oracle.reach(a)); break;
      case 13:
        a = near(15); b = near(40);
        due("lowest(" + a + "," + b + ")", real.lowest(a, b), oracle.lowest(a, b));
        break;
      case 14:
        a = near(30); b = random.nextInt();
        due("seeds(" + a + "," + b + ")", real.seeds(a, b), oracle.seeds(a, b));
        break;
      case 15: case 16: a = near(17); due("count(" + a + ")", real.count(a), oracle.count(a)); break;
      case 17: a = random.nextInt(402); due("row(" + a + ")", real.row(a), oracle.row(a)); break;
      default: due("judge()", real.judge(), oracle.judge());
    }
  }
}
