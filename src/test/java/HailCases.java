import java.math.BigInteger;

/** Promise 25: hail by SEEDS, with draws that are made again in numbers without a bound. */
final class HailCases {
  private static final String SEEDS = "SEEDS with a seed z: n times (1 .. 30) all SPANS by numbers get a WEIGHT that is a DRAW below 100"
      + " (in mind): how often it HOLDS.";
  private static final String DRAW = "A DRAW below m: z becomes z times 1664525 and 1013904223 (an int);"
      + " (z without its sign's bit by 256, cut) modulo m.";
  private static final String FACE = "SEEDS. -4; -6 30.";
  private static final String TWO = "'bb40,0;bb40,0;'=2";

  private HailCases() {}

  static void tell(Sentences s) {
    draws(s);
    edgesOfDraws(s);
    spans(s);
    times(s);
    inMind(s);
    refusals(s);
  }

  private static BigInteger next(BigInteger z) {
    return BigInteger.valueOf(z.multiply(BigInteger.valueOf(1664525)).add(BigInteger.valueOf(1013904223)).intValue());
  }

  private static int drawOf(BigInteger z) {
    return z.clearBit(31).mod(BigInteger.ONE.shiftLeft(31)).divide(BigInteger.valueOf(256)).mod(BigInteger.valueOf(100)).intValue();
  }

  /** So many draws, one behind the other. */
  private static int[] drawn(int seed, int many) {
    int[] draws = new int[many];
    BigInteger z = BigInteger.valueOf(seed);
    for (int i = 0; i < many; i++) {
      z = next(z);
      draws[i] = drawOf(z);
    }
    return draws;
  }

  private static EachBearsPillar told(String text) {
    EachBearsPillar x = new EachBearsPillar();
    Sentences.tell(x, text);
    return x;
  }

  /** One who bears a SPAN alone can bear as much as his STRENGTH: the first draw shows to the unit. */
  private static void firstDrawIs(Sentences s, int seed, int want) {
    s.due("the first draw with seed " + seed, drawn(seed, 1)[0], want);
    for (int strength = 1; strength <= 99; strength++) {
      int held = told("bb" + strength + ",0;bs1,0;").seeds(1, seed);
      s.due("seeds(1, " + seed + ") upon " + strength, held, want <= strength ? 1 : 0);
    }
    s.due("seeds(1, " + seed + ") upon none", told("bl1,0;bs1,0;").seeds(1, seed), want == 0 ? 1 : 0);
  }

  private static void draws(Sentences s) {
    s.of(25, DRAW, "seed 0: 1013904223 by 256 is 3960563");
    firstDrawIs(s, 0, 63);
    s.of(25, DRAW, "seed 1: 1015568748 by 256 is 3967065");
    firstDrawIs(s, 1, 65);
    s.of(25, DRAW, "seed -1: 1012239698 by 256 is 3954061");
    firstDrawIs(s, -1, 61);
    s.of(25, DRAW, "the greatest int, the product goes round");
    firstDrawIs(s, Integer.MAX_VALUE, drawn(Integer.MAX_VALUE, 1)[0]);
    s.of(25, DRAW, "the least int, which leaves the sign's bit alone beside seed 0");
    firstDrawIs(s, Integer.MIN_VALUE, 63);
    s.of(25, DRAW, "seeds all over the ints");
    for (int seed = Integer.MIN_VALUE + 77; seed < 2000000000; seed += 190000003) firstDrawIs(s, seed, drawn(seed, 1)[0]);
  }

  private static void edgesOfDraws(Sentences s) {
    for (int want : new int[] {0, 1, 98, 99}) {
      s.of(25, DRAW, "the draw is " + want);
      int seed = 0;
      while (drawn(seed, 1)[0] != want) seed++;
      firstDrawIs(s, seed, want);
    }
    s.of(25, DRAW, "z has its sign's bit");
    int seed = 0;
    while (next(BigInteger.valueOf(seed)).signum() >= 0) seed++;
    firstDrawIs(s, seed, drawn(seed, 1)[0]);
    s.of(25, DRAW, "z is just below a multiple of 256, cut");
    seed = 0;
    while (next(BigInteger.valueOf(seed)).mod(BigInteger.valueOf(256)).intValue() != 255) seed++;
    firstDrawIs(s, seed, drawn(seed, 1)[0]);
  }

  /** Pillar k bears its right span alone, and half of the left one; all the others can bear any weight. */
  private static EachBearsPillar showing(int span, int strength) {
    StringBuilder text = new StringBuilder();
    for (int k = 0; k < 7; k++) text.append(k == span ? "bt" + strength + ",0;" : k == span + 1 ? "bs1,0;" : "bh99,0;");
    return told(text.toString());
  }

  private static void spans(Sentences s) {
    int seed = 4711;
    int[] w = drawn(seed, 6);
    for (int span = 0; span < 6; span++) {
      s.of(25, SEEDS, "SPAN " + span + " gets the draw of its number");
      int load = 2 * w[span] + (span > 0 ? w[span - 1] : 0);
      int enough = (load + 3) / 4;
      s.due("seeds(1, 4711) upon just enough", showing(span, enough).seeds(1, seed), 1);
      s.due("seeds(1, 4711) upon too little", showing(span, enough - 1).seeds(1, seed), 0);
    }
    s.of(25, SEEDS, "SPANS that lack a BEARER get theirs, too");
    for (int strength = 5; strength < 100; strength += 5) {
      int[] two = drawn(seed, 12);
      int due = (two[0] <= strength ? 1 : 0) + (two[6] <= strength ? 1 : 0);
      s.due("seeds(2, 4711) upon " + strength, told("bb" + strength + ",0;bs1,0;").seeds(2, seed), due);
    }
  }

  private static void times(Sentences s) {
    s.of(25, SEEDS, "each number of times from 1 to 30");
    int[] w = drawn(99, 180);
    int due = 0;
    for (int n = 1; n <= 30; n++) {
      due += w[6 * n - 6] <= 50 ? 1 : 0;
      s.due("seeds(" + n + ", 99)", told("bb50,0;bs1,0;").seeds(n, 99), due);
    }
    s.test(25, SEEDS, "always", "seeds(1,5)=1 seeds(30,5)=30");
    s.test(25, SEEDS, "always, one alone", "'bb1,0;'=1 seeds(30,5)=30");
    s.test(25, SEEDS, "always, they can bear it", "'bh99,0;bh99,0;bh99,0;'=3 seeds(30,5)=30");
    s.of(25, SEEDS, "never but with WEIGHT 0");
    due = 0;
    for (int time = 0; time < 30; time++) due += w[6 * time] == 0 ? 1 : 0;
    s.due("seeds(30, 99) of two who are SICK", told("bs1,0;bs1,0;").seeds(30, 99), due);
  }

  private static void inMind(Sentences s) {
    s.test(25, SEEDS, "WEIGHT stays", TWO + " 's0,7;s5,9;'=2 seeds(30,1) span(0,0)=7 span(5,0)=9");
    s.unchanged(25, SEEDS, "nothing changes", "'bb9,1;bb9,0;s0,4;g3,3;l1;'=5 row(8) row(0) image", "seeds(30,1)");
    s.test(25, SEEDS, "WEIGHT that is told does not matter",
        TWO + " span(0,99) holds=0 seeds(1,1)=1 span(0,0) seeds(1,1)=1");
    s.of(25, SEEDS, "the seed is not kept");
    EachBearsPillar x = told("bb50,0;bs1,0;");
    int first = x.seeds(30, 99);
    s.due("seeds(30, 99) again", x.seeds(30, 99), first);
  }

  private static void refusals(Sentences s) {
    s.test(25, FACE, "0 times", "seeds(0,5)=-4");
    s.test(25, FACE, "below 0 times", "seeds(-1,5)=-4 seeds(MIN,5)=-4");
    s.test(25, FACE, "once", "seeds(1,5)=1");
    s.test(25, FACE, "30 times", "seeds(30,5)=30");
    s.test(25, FACE, "31 times", "seeds(31,5)=-6 seeds(MAX,5)=-6");
    s.test(25, FACE, "any seed will do", "seeds(1,0)=1 seeds(1,-1)=1 seeds(1,MIN)=1 seeds(1,MAX)=1 count(14)=0 count(16)=0");
    s.test(25, FACE, "any seed with too few times and too many", "seeds(0,MIN)=-4 seeds(31,MAX)=-6");
  }
}
