/** Promises 1 and 4: a new object, and what there is of a BEARER. */
final class BearerCases {
  private static final String SEVEN = "'bb1,0;bc2,1;bt3,2;bs4,3;bl5,4;bh6,5;bb99,9;'=7";
  private static final String BEARERS = "BEARERS 0 .. 6 as they come (7 at most), each under the PILLAR of that number:"
      + " KIND, STRENGTH (1 .. 99), HEIGHT (0 .. 9), BLOCK (0 .. 9: 0 at first).";
  private static final String TOP = "TOP of a BEARER: GROUND where he stands, HEIGHT and BLOCK.";
  private static final String BEARS = "He BEARS, if TOP is LEVEL at least; he STOOPS, if it is more.";
  private static final String B = "MIGHT by KINDS: b BEARER: STRENGTH; half of it, cut, if he STOOPS.";
  private static final String C = "c CHILD under BEARER: half of a BEARER's, cut.";
  private static final String T = "t TWINS under BEARER: twice a BEARER's.";
  private static final String S = "s SICK under BEARER: as a BEARER's, but he never BEARS.";
  private static final String L = "l LAZY under BEARER: a BEARER's less 3, 0 at least.";
  private static final String H = "h HELPER under TWINS: as TWINS' who do not STOOP, whether he does or not.";
  private static final String OF = "Of a BEARER: 0 KIND (0 b, 1 c, 2 t, 3 s, 4 l, 5 h), 1 STRENGTH, 2 HEIGHT, 3 BLOCK, 4 TOP,"
      + " 5 1 he BEARS, 6 1 he STOOPS (0 he does not BEAR), 7 MIGHT.";
  private static final String NO = "-1; -2.";

  private BearerCases() {}

  static void tell(Sentences s) {
    newObject(s);
    bearers(s);
    tops(s);
    might(s);
    mightOfOthers(s);
    what(s);
    refusals(s);
  }

  private static void newObject(Sentences s) {
    s.test(1, "No BEARERS.", "how many", "count(0)=0 count(5)=0 image=0");
    s.test(1, "No BEARERS.", "none to ask of", "bearer(0,0)=-1 load(0)=-1 block(0,0)=-1 orders(0)=-1");
    s.test(1, "No BEARERS.", "nothing that weighs", "count(3)=0 count(4)=0 holds=1 sag=-9");
    s.test(1, "No BEARERS.", "nothing told", "count(1)=0 count(2)=0 count(6)=0 count(7)=0 on=-3");
    s.of(1, "No BEARERS.", "one object knows nothing of another");
    EachBearsPillar one = new EachBearsPillar();
    s.run(one, "'bb9,9;s0,9;g0,9;l9;k0,9;'=5 at(3) row(1) letter(1) image bearer(9,9)");
    s.run(new EachBearsPillar(), "count(0)=0 count(1)=0 count(2)=0 count(3)=0 count(6)=0 count(7)=0 count(11)=0"
        + " ground(0,0)=0 on=-3");
    s.run(one, "count(0)=1 count(1)=3 count(2)=9 count(3)=9 count(6)=1 count(7)=1 count(11)=1 ground(0,0)=9 on=1");
  }

  private static void bearers(Sentences s) {
    s.test(4, BEARERS, "as they come", SEVEN + " bearer(0,1)=1 bearer(1,1)=2 bearer(2,1)=3 bearer(3,1)=4 bearer(4,1)=5"
        + " bearer(5,1)=6 bearer(6,1)=99");
    s.test(4, BEARERS, "as they come, text by text", "'bb5,0;'=1 'bb3,0;'=1 bearer(0,1)=5 bearer(1,1)=3");
    s.test(4, BEARERS, "7 at most", SEVEN + " 'bb1,1;'=-2000 count(0)=7 bearer(7,0)=-1");
    s.test(4, BEARERS, "under the PILLAR of that number", SEVEN + " 's5,7;'=1 load(4)=0 load(5)=7 load(6)=7");
    s.test(4, BEARERS, "the least STRENGTH", "'bb1,0;'=1 bearer(0,1)=1");
    s.test(4, BEARERS, "the greatest STRENGTH", "'bb99,0;'=1 bearer(0,1)=99");
    s.test(4, BEARERS, "STRENGTH below the least", "'bb0,0;'=-2000 count(0)=0");
    s.test(4, BEARERS, "the least HEIGHT", "'bb1,0;'=1 bearer(0,2)=0");
    s.test(4, BEARERS, "the greatest HEIGHT", "'bb1,9;'=1 bearer(0,2)=9");
    s.test(4, BEARERS, "BLOCK is 0 at first", SEVEN + " bearer(0,3)=0 bearer(6,3)=0");
    s.test(4, BEARERS, "BLOCK is 0 at first, where another's was not",
        "'bb1,0;'=1 image 'bb1,0;k1,9;'=2 on=1 'bb1,0;'=1 bearer(1,3)=0");
    s.test(4, BEARERS, "the greatest BLOCK", "'bb1,0;k0,9;'=2 bearer(0,3)=9");
  }

  private static void tops(Sentences s) {
    s.test(4, TOP, "the least", "'bb1,0;'=1 bearer(0,4)=0");
    s.test(4, TOP, "the greatest", "'bb1,9;k0,9;g0,9;'=3 bearer(0,4)=27");
    s.test(4, TOP, "HEIGHT alone", "'bb1,9;'=1 bearer(0,4)=9");
    s.test(4, TOP, "BLOCK alone", "'bb1,0;k0,9;'=2 bearer(0,4)=9");
    s.test(4, TOP, "GROUND alone", "'bb1,0;g0,9;'=2 bearer(0,4)=9");
    s.test(4, TOP, "GROUND where he stands", SEVEN + " 'g6,7;g5,3;'=2 bearer(6,4)=16 bearer(5,4)=8 bearer(0,4)=0");
    s.test(4, TOP, "GROUND at the last PLACE", SEVEN + " at(9) 'g15,7;g9,3;'=2 bearer(6,4)=16 bearer(0,4)=3");
    s.test(4, BEARS, "TOP is LEVEL", "'bb9,5;l5;'=2 bearer(0,5)=1 bearer(0,6)=0");
    s.test(4, BEARS, "TOP is 1 more", "'bb9,5;l4;'=2 bearer(0,5)=1 bearer(0,6)=1");
    s.test(4, BEARS, "TOP is 1 less", "'bb9,5;l6;'=2 bearer(0,5)=0 bearer(0,6)=0");
    s.test(4, BEARS, "both are 0", "'bb9,0;'=1 bearer(0,5)=1 bearer(0,6)=0");
    s.test(4, BEARS, "both are 27", "'bb9,9;k0,9;g0,9;l27;'=4 bearer(0,5)=1 bearer(0,6)=0");
    s.test(4, BEARS, "LEVEL is 27, TOP 26", "'bb9,9;k0,9;g0,8;l27;'=4 bearer(0,5)=0 bearer(0,6)=0");
    s.test(4, BEARS, "LEVEL is 0, TOP 27", "'bb9,9;k0,9;g0,9;'=3 bearer(0,5)=1 bearer(0,6)=1");
  }

  /** A script: MIGHT of one of a KIND and STRENGTH who stands straight, stoops, and is too low. */
  private static String mightIs(char kind, int strength, int straight, int stooped) {
    return "'b" + kind + strength + ",1;l1;'=2 bearer(0,7)=" + straight + " level(0) bearer(0,7)=" + stooped
        + " level(2) bearer(0,7)=" + straight;
  }

  private static void might(Sentences s) {
    s.test(4, B, "STRENGTH 1", mightIs('b', 1, 1, 0));
    s.test(4, B, "STRENGTH 2", mightIs('b', 2, 2, 1));
    s.test(4, B, "STRENGTH 3", mightIs('b', 3, 3, 1));
    s.test(4, B, "STRENGTH 99", mightIs('b', 99, 99, 49));
    s.test(4, C, "STRENGTH 1", mightIs('c', 1, 0, 0));
    s.test(4, C, "STRENGTH 2", mightIs('c', 2, 1, 0));
    s.test(4, C, "STRENGTH 3", mightIs('c', 3, 1, 0));
    s.test(4, C, "STRENGTH 4", mightIs('c', 4, 2, 1));
    s.test(4, C, "STRENGTH 99", mightIs('c', 99, 49, 24));
    s.test(4, T, "STRENGTH 1", mightIs('t', 1, 2, 0));
    s.test(4, T, "STRENGTH 2", mightIs('t', 2, 4, 2));
    s.test(4, T, "STRENGTH 99", mightIs('t', 99, 198, 98));
  }

  private static void mightOfOthers(Sentences s) {
    s.test(4, S, "STRENGTH 1", mightIs('s', 1, 1, 0));
    s.test(4, S, "STRENGTH 99", mightIs('s', 99, 99, 49));
    s.test(4, S, "never, his TOP is LEVEL", "'bs9,5;l5;'=2 bearer(0,5)=0 bearer(0,6)=0 count(5)=0");
    s.test(4, S, "never, his TOP is more", "'bs9,5;l4;'=2 bearer(0,5)=0 bearer(0,6)=0 count(5)=0");
    s.test(4, S, "never, his TOP is less", "'bs9,5;l6;'=2 bearer(0,5)=0 bearer(0,6)=0 count(5)=0");
    s.test(4, S, "never, all are 0", "'bs9,0;'=1 bearer(0,5)=0 bearer(0,6)=0");
    s.test(4, L, "STRENGTH 1", mightIs('l', 1, 0, 0));
    s.test(4, L, "STRENGTH 2", mightIs('l', 2, 0, 0));
    s.test(4, L, "STRENGTH 3", mightIs('l', 3, 0, 0));
    s.test(4, L, "STRENGTH 4", mightIs('l', 4, 1, 0));
    s.test(4, L, "STRENGTH 7", mightIs('l', 7, 4, 0));
    s.test(4, L, "STRENGTH 8", mightIs('l', 8, 5, 1));
    s.test(4, L, "STRENGTH 99", mightIs('l', 99, 96, 46));
    s.test(4, H, "STRENGTH 1", mightIs('h', 1, 2, 2));
    s.test(4, H, "STRENGTH 3", mightIs('h', 3, 6, 6));
    s.test(4, H, "STRENGTH 99", mightIs('h', 99, 198, 198));
  }

  private static void what(Sentences s) {
    s.test(4, OF, "0 KIND of each", SEVEN + " bearer(0,0)=0 bearer(1,0)=1 bearer(2,0)=2 bearer(3,0)=3 bearer(4,0)=4"
        + " bearer(5,0)=5 bearer(6,0)=0");
    s.test(4, OF, "1 STRENGTH", "'bb12,3;'=1 bearer(0,1)=12");
    s.test(4, OF, "2 HEIGHT", "'bb12,3;k0,4;g0,5;'=3 bearer(0,2)=3");
    s.test(4, OF, "3 BLOCK", "'bb12,3;k0,4;g0,5;'=3 bearer(0,3)=4");
    s.test(4, OF, "4 TOP", "'bb12,3;k0,4;g0,5;'=3 bearer(0,4)=12");
    s.test(4, OF, "5 he BEARS or not", "'bb9,1;bb9,0;l1;'=3 bearer(0,5)=1 bearer(1,5)=0");
    s.test(4, OF, "6 he STOOPS or not", "'bb9,2;bb9,1;l1;'=3 bearer(0,6)=1 bearer(1,6)=0");
    s.test(4, OF, "6 he does not BEAR, since he is too low", "'bb9,0;l1;'=2 bearer(0,6)=0");
    s.test(4, OF, "6 he does not BEAR, since he is SICK, though TOP is more", "'bs9,9;l1;'=2 bearer(0,6)=0");
    s.test(4, OF, "7 MIGHT, the least what and the greatest", "'bt12,3;l3;'=2 bearer(0,0)=2 bearer(0,7)=24");
  }

  private static void refusals(Sentences s) {
    s.test(4, NO, "nobody", "bearer(0,0)=-1");
    s.test(4, NO, "below the first", "'bb1,0;'=1 bearer(-1,0)=-1");
    s.test(4, NO, "behind the last", "'bb1,0;'=1 bearer(1,0)=-1");
    s.test(4, NO, "behind the last of seven", SEVEN + " bearer(6,0)=0 bearer(7,0)=-1");
    s.test(4, NO, "the least int and the greatest", SEVEN + " bearer(MIN,0)=-1 bearer(MAX,0)=-1");
    s.test(4, NO, "what below 0", "'bb1,0;'=1 bearer(0,-1)=-2");
    s.test(4, NO, "what above 7", "'bb1,0;'=1 bearer(0,8)=-2");
    s.test(4, NO, "what the least int and the greatest", "'bb1,0;'=1 bearer(0,MIN)=-2 bearer(0,MAX)=-2");
    s.test(4, NO, "nobody, and another what", "bearer(0,8)=-1 bearer(0,-1)=-1 count(11)=2 count(12)=0");
    s.test(4, NO, "behind the last, and another what", "'bb1,0;'=1 bearer(1,8)=-1 count(11)=1 count(12)=0");
  }
}
