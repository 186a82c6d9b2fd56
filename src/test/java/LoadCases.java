/** Promises 10 to 13: LOADS, whether it HOLDS, where it sags, LEVELS at which it HOLDS. */
final class LoadCases {
  private static final String LOAD = "LOAD of a PILLAR with a BEARER, in halves: of each SPAN at it (with a BEARER at its other end,"
      + " too): its WEIGHT, if both BEAR; twice, if only he does; else 0.";
  private static final String FALLS = "A SPAN FALLS, if it has WEIGHT above 0, BEARERS at both ends, and none of them BEARS.";
  private static final String HOLDS = "It HOLDS: no SPAN FALLS, no LOAD is more than twice MIGHT.";
  private static final String NOTHING = "SPANS that lack a BEARER at an end weigh nothing.";
  private static final String SAG = "SAG: the first PILLAR whose LOAD is more than twice MIGHT; 10 and the first SPAN that FALLS,"
      + " if there is none such; -9 it HOLDS.";
  private static final String LEVELS = "LEVELS (bits 0 .. 27) at which it HOLDS.";
  private static final String SEVEN = "'" + "bb9,1;".repeat(7) + "'=7";
  private static final int ALL_LEVELS = 268435455;

  private LoadCases() {}

  static void tell(Sentences s) {
    loads(s);
    lacking(s);
    refusals(s);
    falls(s);
    holds(s);
    sag(s);
    levels(s);
  }

  private static void loads(Sentences s) {
    s.test(10, LOAD, "both BEAR", "'bb9,1;bb9,1;s0,5;l1;'=4 load(0)=5 load(1)=5");
    s.test(10, LOAD, "only the left one BEARS", "'bb9,1;bb9,0;s0,5;l1;'=4 load(0)=10 load(1)=0");
    s.test(10, LOAD, "only the right one BEARS", "'bb9,0;bb9,1;s0,5;l1;'=4 load(0)=0 load(1)=10");
    s.test(10, LOAD, "none BEARS", "'bb9,0;bb9,0;s0,5;l1;'=4 load(0)=0 load(1)=0");
    s.test(10, LOAD, "a SICK one at the other end", "'bb9,1;bs9,1;s0,5;l1;'=4 load(0)=10 load(1)=0");
    s.test(10, LOAD, "both STOOP", "'bb9,1;bb9,1;s0,5;'=3 load(0)=5 load(1)=5");
    s.test(10, LOAD, "WEIGHT 0", "'bb9,1;bb9,0;l1;'=3 load(0)=0 load(1)=0");
    s.test(10, LOAD, "WEIGHT 1", "'bb9,1;bb9,0;s0,1;l1;'=4 load(0)=2 load(1)=0");
    s.test(10, LOAD, "two SPANS, all BEAR", "'bb9,1;bb9,1;bb9,1;s0,5;s1,7;l1;'=6 load(0)=5 load(1)=12 load(2)=7");
    s.test(10, LOAD, "two SPANS, the middle one BEARS",
        "'bb9,0;bb9,1;bb9,0;s0,5;s1,7;l1;'=6 load(0)=0 load(1)=24 load(2)=0");
    s.test(10, LOAD, "two SPANS, one neighbour BEARS", "'bb9,1;bb9,1;bb9,0;s0,5;s1,7;l1;'=6 load(0)=5 load(1)=19 load(2)=0");
    s.test(10, LOAD, "the greatest", "'bb1,0;bb1,1;bb1,0;s0,99;s1,99;l1;'=6 load(1)=396 count(4)=396");
    s.test(10, LOAD, "the first of seven", SEVEN + " 's0,3;s1,50;'=2 load(0)=3");
    s.test(10, LOAD, "the last of seven", SEVEN + " 's4,50;s5,3;'=2 load(6)=3");
    s.test(10, LOAD, "more than he can bear", "'bb1,0;bb1,0;s0,99;'=3 load(0)=99 load(1)=99");
  }

  private static void lacking(Sentences s) {
    s.test(10, NOTHING, "no BEARER behind the last", "'bb9,0;bb9,0;s0,5;s1,99;'=4 load(0)=5 load(1)=5 count(4)=10");
    s.test(10, NOTHING, "one BEARER alone", "'bb9,0;s0,99;'=2 load(0)=0");
    s.test(11, NOTHING, "one BEARER who could not bear it", "'bb1,0;s0,99;'=2 holds=1");
    s.test(11, NOTHING, "one BEARER who does not BEAR", "'bb1,0;s0,99;l1;'=3 holds=1 sag=-9");
    s.test(11, NOTHING, "nobody", "'s0,99;s5,99;l27;'=3 holds=1 sag=-9 count(4)=0");
    s.test(10, NOTHING, "till a BEARER comes", "'bb9,0;s0,5;'=2 load(0)=0 'bb9,0;'=1 load(0)=5");
  }

  private static void refusals(Sentences s) {
    s.test(10, "LOAD. -1.", "nobody", "load(0)=-1");
    s.test(10, "LOAD. -1.", "below the first", SEVEN + " load(-1)=-1 load(MIN)=-1");
    s.test(10, "LOAD. -1.", "behind the last", "'bb9,0;bb9,0;'=2 load(1)=0 load(2)=-1");
    s.test(10, "LOAD. -1.", "behind the last of seven", SEVEN + " load(6)=0 load(7)=-1 load(MAX)=-1");
  }

  private static void falls(Sentences s) {
    s.test(11, FALLS, "WEIGHT 0", "'bb9,0;bb9,0;l1;'=3 holds=1");
    s.test(11, FALLS, "WEIGHT 1", "'bb9,0;bb9,0;s0,1;l1;'=4 holds=0");
    s.test(11, FALLS, "the left one BEARS", "'bb9,1;bb9,0;s0,1;l1;'=4 holds=1");
    s.test(11, FALLS, "the right one BEARS", "'bb9,0;bb9,1;s0,1;l1;'=4 holds=1");
    s.test(11, FALLS, "a BEARER at one end alone", "'bb9,0;bb9,1;s1,1;l2;'=4 holds=1");
    s.test(11, FALLS, "two who are SICK", "'bs9,0;bs9,0;s0,1;'=3 holds=0");
    s.test(11, FALLS, "the last SPAN", SEVEN + " level(2) span(5,1) holds=0");
  }

  private static void holds(Sentences s) {
    s.test(11, HOLDS, "nobody", "holds=1");
    s.test(11, HOLDS, "one alone", "'bb1,0;'=1 holds=1");
    s.test(11, HOLDS, "LOAD is twice MIGHT", "'bb5,0;bb9,0;s0,10;'=3 holds=1");
    s.test(11, HOLDS, "LOAD is a half more", "'bb5,0;bb9,0;s0,11;'=3 holds=0");
    s.test(11, HOLDS, "LOAD is twice MIGHT, he STOOPS", "'bb5,1;bb9,0;s0,4;'=3 holds=1");
    s.test(11, HOLDS, "LOAD is a half more, he STOOPS", "'bb5,1;bb9,0;s0,5;'=3 holds=0");
    s.test(11, HOLDS, "MIGHT 0 and LOAD 0", "'bl1,0;bb9,0;'=2 holds=1");
    s.test(11, HOLDS, "MIGHT 0 and LOAD 1", "'bl1,0;bb9,0;s0,1;'=3 holds=0");
    s.test(11, HOLDS, "the last PILLAR's LOAD is twice MIGHT", "'bb9,0;bb5,0;s0,10;'=3 holds=1");
    s.test(11, HOLDS, "the last PILLAR's LOAD is a half more", "'bb9,0;bb5,0;s0,11;'=3 holds=0");
    s.test(11, HOLDS, "a SPAN FALLS, no LOAD", "'bb9,0;bb9,0;s0,1;l1;'=4 count(4)=0 holds=0");
    s.test(11, HOLDS, "a SPAN FALLS, and a LOAD is more", "'bb9,0;bb9,0;bb1,1;bb1,1;s0,1;s2,3;l1;'=7 holds=0");
    s.test(11, HOLDS, "one who does not BEAR has no LOAD", "'bb1,0;bb99,1;s0,99;l1;'=4 holds=1");
    s.test(11, "1 it HOLDS, 0.", "1", "'bb9,0;bb9,0;s0,18;'=3 holds=1");
    s.test(11, "1 it HOLDS, 0.", "0", "'bb9,0;bb9,0;s0,19;'=3 holds=0");
  }

  private static void sag(Sentences s) {
    String ends = "'bb1,0;bh99,0;bh99,0;bh99,0;bh99,0;bh99,0;bb1,0;'=7";
    s.test(12, SAG, "the first PILLAR of all", ends + " span(0,3) sag=0");
    s.test(12, SAG, "the last PILLAR of all", ends + " span(5,3) sag=6");
    s.test(12, SAG, "just twice MIGHT", ends + " span(0,2) span(5,2) sag=-9");
    s.test(12, SAG, "the first of two PILLARS", ends + " span(0,3) span(5,3) sag=0");
    s.test(12, SAG, "the first SPAN of all", "'bb9,0;bb9,0;s0,1;l1;'=4 sag=10");
    s.test(12, SAG, "the last SPAN of all", "'" + "bb9,1;".repeat(5) + "bb9,0;bb9,0;s5,1;l1;'=9 sag=15");
    s.test(12, SAG, "the first of two SPANS", "'bb9,0;bb9,0;bb9,0;bb9,0;s1,1;s2,1;l1;'=7 sag=11");
    s.test(12, SAG, "a PILLAR behind a SPAN that FALLS", "'bb9,0;bb9,0;bb9,1;bb1,1;s0,1;s2,3;l1;'=7 sag=3");
    s.test(12, SAG, "a PILLAR ahead of a SPAN that FALLS", "'bb1,1;bb9,1;bb9,0;bb9,0;s0,3;s2,1;l1;'=7 sag=0");
    s.test(12, SAG, "it HOLDS", "'bb9,0;bb9,0;s0,18;'=3 sag=-9");
    s.test(12, "SAG; -9.", "nobody", "sag=-9");
    s.test(12, "SAG; -9.", "one alone who does not BEAR", "'bb9,0;s0,9;l1;'=3 sag=-9");
  }

  private static void levels(Sentences s) {
    s.test(13, LEVELS, "nobody: all 28", "levels=" + ALL_LEVELS);
    s.test(13, LEVELS, "no WEIGHT: all 28", "'bb1,0;bb1,0;'=2 levels=" + ALL_LEVELS);
    s.test(13, LEVELS, "none", "'bb1,0;bb1,0;s0,99;'=3 levels=0");
    s.test(13, LEVELS, "bit 0 alone", "'bb9,0;bb9,0;s0,1;'=3 levels=1");
    s.test(13, LEVELS, "bit 27 alone", "'bb1,9;bb1,9;s0,2;k0,9;k1,9;g0,9;g1,9;'=7 levels=" + (1 << 27));
    s.test(13, LEVELS, "up to 26", "'bb9,9;bb9,9;s0,1;k0,9;k1,9;g0,8;g1,8;'=7 levels=" + (ALL_LEVELS >> 1));
    s.test(13, LEVELS, "a gap in the midst", "'bh5,1;bb6,3;s0,5;'=3 levels=11");
    s.test(13, "LEVELS (bits).", "whichever LEVEL is told", "'bb9,0;bb9,0;s0,1;l27;'=4 levels=1 count(2)=27 holds=0");
    s.test(13, "LEVELS (bits).", "where the roof is AT", "'bb9,0;bb9,0;s0,1;g14,1;g15,1;'=5 levels=1 at(14) levels=3");
  }
}
