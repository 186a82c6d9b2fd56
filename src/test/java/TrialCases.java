/** Promises 14, 15, 17 and 18: BLOCKS, SWAP, who is NEEDED, what a SPAN can have MORE. */
final class TrialCases {
  private static final String BLOCKS = "BLOCKS: the least sum of BLOCK that, put under one or two BEARERS more (9 at most each in all),"
      + " lets it HOLD; 0 it does; -9.";
  private static final String SWAP = "SWAP: the first two BEARERS (10 times the lesser and the other) who, in each other's stead"
      + " (BLOCKS go with them), let it HOLD; -9.";
  private static final String NEEDED = "NEEDED: BEARERS (bits) without each of whom alone (he does not BEAR) it would not HOLD,"
      + " though it does; 0, if it does not.";
  private static final String MORE =
      "MORE: the greatest WEIGHT more (0 .. 99) that a SPAN can have so that it HOLDS; -9 it does not now.";
  private static final String SEVEN = "'" + "bb9,0;".repeat(7) + "'=7";

  private TrialCases() {}

  static void tell(Sentences s) {
    blocks(s);
    blocksInAll(s);
    swap(s);
    needed(s);
    more(s);
    moreRefusals(s);
  }

  private static void blocks(Sentences s) {
    s.test(14, BLOCKS, "it HOLDS", "'bb9,0;bb9,0;s0,18;'=3 blocks=0");
    s.test(14, BLOCKS, "it HOLDS, though one is too low", "'bb9,0;bb9,1;s0,9;l1;'=4 blocks=0");
    s.test(14, BLOCKS, "under one, the least sum", "'bb9,0;bs9,0;s0,9;l1;'=4 blocks=1");
    s.test(14, BLOCKS, "under one, the greatest sum", "'bb9,0;bs9,0;s0,9;l9;'=4 blocks=9");
    s.test(14, BLOCKS, "under one, he just can't bear it", "'bb9,0;bs9,0;s0,10;l1;'=4 blocks=-9");
    s.test(14, BLOCKS, "under two, the least sum", "'bb5,0;bb5,0;s0,10;l1;'=4 blocks=2");
    s.test(14, BLOCKS, "under two, the greatest sum", "'bb5,0;bb5,0;s0,10;l9;'=4 blocks=18");
    s.test(14, BLOCKS, "under two, they just can't bear it", "'bb5,0;bb5,0;s0,11;l1;'=4 blocks=-9");
    s.test(14, BLOCKS, "under two of another number each", "'bb5,3;bb5,1;s0,10;l4;'=4 blocks=4");
    s.test(14, BLOCKS, "under the first and the last", "'bb9,0;" + "bs9,0;".repeat(5) + "bb9,0;l1;s0,9;s5,9;'=10 blocks=2");
    s.test(14, BLOCKS, "two cost less than one", "'bb9,8;bh9,0;bb9,8;s0,9;s1,9;l9;'=6 blocks=2");
    s.test(14, BLOCKS, "one costs less than two", "'bb9,0;bh9,1;bb9,0;s0,9;s1,9;l9;'=6 blocks=8");
    s.test(14, BLOCKS, "the cheaper of two who each can", "'bb9,0;bb9,2;s0,9;l5;'=4 blocks=3");
    s.test(14, BLOCKS, "three would be needed", "'bb3,0;bb3,0;bb3,0;s0,6;s1,6;l1;'=6 blocks=-9");
    s.test(14, BLOCKS, "help for one who bears too much alone", "'bb5,1;bb9,0;s0,6;l1;'=4 holds=0 blocks=1");
    s.test(14, BLOCKS, "help for one who bears too much alone, by more", "'bb2,5;bb9,0;s0,4;l5;'=4 holds=0 blocks=5");
    s.test(14, BLOCKS, "nobody is too low, it is too heavy", "'bb1,0;bb1,0;s0,99;'=3 blocks=-9");
    s.test(14, BLOCKS, "those who STOOP can't be lowered", "'bb5,1;bb5,1;s0,10;'=3 blocks=-9");
    s.test(14, BLOCKS, "two who are SICK", "'bs9,0;bs9,0;s0,1;'=3 blocks=-9");
  }

  private static void blocksInAll(Sentences s) {
    s.test(14, BLOCKS, "9 in all, 1 is there", "'bb9,0;bs9,0;s0,9;k0,1;l9;'=5 blocks=8");
    s.test(14, BLOCKS, "10 in all, 1 is there", "'bb9,0;bs9,0;s0,9;k0,1;l10;'=5 blocks=-9");
    s.test(14, BLOCKS, "10 in all, none is there", "'bb9,0;bs9,0;s0,9;l10;'=4 blocks=-9");
    s.test(14, BLOCKS, "9 are there", "'bb9,0;bs9,0;s0,9;k0,9;l10;'=5 blocks=-9");
    s.test(14, BLOCKS, "9 in all under both, some are there", "'bb5,0;bb5,0;s0,10;k0,4;k1,8;l9;'=6 blocks=6");
    s.test(14, BLOCKS, "10 in all under one of both", "'bb5,1;bb5,0;s0,10;k0,4;k1,8;l10;'=6 blocks=-9");
    s.test(14, "BLOCKS; -9.", "nobody", "blocks=0");
    s.test(14, "BLOCKS; -9.", "one alone", "'bb9,0;s0,9;l9;'=3 blocks=0");
    s.test(14, "BLOCKS; -9.", "none is put", "'bb9,0;bs9,0;s0,9;l9;'=4 blocks=9 bearer(0,3)=0 holds=0");
  }

  private static void swap(Sentences s) {
    s.test(15, SWAP, "the first two of all", "'bb9,0;bb1,0;bb9,0;s1,18;'=4 swap=1");
    s.test(15, SWAP, "the last two of all", "'" + "bb1,0;".repeat(4) + "bb9,0;bb1,0;bb9,0;s4,18;'=8 swap=56");
    s.test(15, SWAP, "the first and the last", "'bb1,0;" + "bb2,0;".repeat(5) + "bb9,0;g0,1;l1;s0,9;'=10 swap=6");
    s.test(15, SWAP, "10 times the lesser", "'bb9,0;bb1,0;bb9,0;s0,18;'=4 swap=12");
    s.test(15, SWAP, "the lesser one counts first", "'bb9,0;bb9,1;bb9,1;bb1,1;s1,18;l1;'=6 swap=3");
    s.test(15, SWAP, "the other one counts then", "'bb1,1;bs1,0;bb9,0;bb9,0;s0,9;'=5 swap=2");
    s.test(15, SWAP, "it HOLDS, and would", "'bb9,0;bb9,0;s0,18;'=3 swap=1");
    s.test(15, SWAP, "it HOLDS, but would not", "'bb9,0;bb9,1;g0,1;s0,9;l1;'=5 holds=1 swap=-9");
    s.test(15, SWAP, "none", "'bb1,0;bb1,0;s0,99;'=3 swap=-9");
    s.test(15, SWAP, "BLOCKS go with them", "'bb9,0;bs9,0;g1,1;k0,1;s0,9;l2;'=6 holds=0 swap=1");
    s.test(15, SWAP, "BLOCKS do not stay", "'bb9,0;bs9,0;k1,1;s0,9;l1;'=5 holds=0 swap=-9");
    s.test(15, "SWAP; -9.", "nobody", "swap=-9");
    s.test(15, "SWAP; -9.", "one alone", "'bb9,0;'=1 swap=-9");
    s.test(15, "SWAP; -9.", "they stay where they are", "'bb9,0;bb1,0;bb9,0;s1,18;'=4 swap=1 bearer(0,1)=9 bearer(1,1)=1");
  }

  private static void needed(Sentences s) {
    s.test(17, NEEDED, "none", "'bb9,0;bb9,0;s0,9;'=3 needed=0");
    s.test(17, NEEDED, "both, by a half", "'bb9,0;bb9,0;s0,10;'=3 needed=3");
    s.test(17, NEEDED, "the first", "'bb9,0;bs9,0;s0,9;'=3 needed=1");
    s.test(17, NEEDED, "the seventh", "'" + "bb9,0;".repeat(5) + "bs9,0;bb9,0;s5,9;'=8 needed=64");
    s.test(17, NEEDED, "all seven", "'" + "bb5,0;".repeat(7) + "s0,5;s1,5;s2,5;s3,5;s4,5;s5,5;'=13 needed=127");
    s.test(17, NEEDED, "the one between two who are too low", "'bb9,0;bb9,1;bb9,0;s0,4;s1,5;l1;'=6 needed=2");
    s.test(17, NEEDED, "one without whom a SPAN FALLS", "'bh99,1;bb1,0;s0,1;l1;'=4 needed=1");
    s.test(17, NEEDED, "it does not HOLD", "'bb9,0;bb9,0;s0,19;'=3 needed=0");
    s.test(17, NEEDED, "it does not HOLD, though it would without one", "'bb1,1;bh99,0;s0,9;'=3 holds=0 needed=0");
    s.test(17, "NEEDED (bits).", "nobody", "needed=0");
    s.test(17, "NEEDED (bits).", "one alone", "'bb9,0;s0,99;'=2 needed=0");
    s.test(17, "NEEDED (bits).", "they BEAR as before", "'bb9,0;bb9,0;s0,10;'=3 needed=3 count(5)=2 holds=1");
  }

  private static void more(Sentences s) {
    s.test(18, MORE, "0 more", "'bb9,0;bb9,0;s0,18;'=3 more(0)=0");
    s.test(18, MORE, "1 more", "'bb9,0;bb9,0;s0,17;'=3 more(0)=1");
    s.test(18, MORE, "98 more", "'bb98,0;bs1,0;'=2 more(0)=98");
    s.test(18, MORE, "99 more, just so", "'bb99,0;bs1,0;'=2 more(0)=99");
    s.test(18, MORE, "99 more, though he could bear more", "'bh99,0;bs1,0;'=2 more(0)=99");
    s.test(18, MORE, "99 more upon 99", "'bh99,0;bh99,0;s0,99;'=3 more(0)=99");
    s.test(18, MORE, "more upon 50, above 99 in all", "'bt60,0;bs1,0;s0,50;'=3 more(0)=70");
    s.test(18, MORE, "none BEARS, WEIGHT is 0", "'bb9,0;bb9,0;l1;'=3 more(0)=0");
    s.test(18, MORE, "one of both BEARS, by a half", "'bb9,1;bb9,0;s0,8;l1;'=4 more(0)=1");
    s.test(18, MORE, "a neighbour's SPAN weighs too", "'bb9,0;bb9,0;bb9,0;s0,8;s1,4;'=5 more(0)=6 more(1)=6");
    s.test(18, MORE, "a SPAN that lacks a BEARER", "'bb1,0;bb1,0;s0,2;s1,99;'=4 more(0)=0 more(1)=99 more(5)=99");
    s.test(18, MORE, "nobody", "more(0)=99 more(5)=99");
    s.test(18, MORE, "it does not HOLD", "'bb9,0;bb9,0;s0,19;'=3 more(0)=-9");
    s.test(18, MORE, "it does not HOLD, a SPAN that lacks a BEARER", "'bb9,0;bb9,0;s0,19;'=3 more(5)=-9");
    s.test(18, MORE, "a SPAN FALLS", "'bb9,0;bb9,0;s0,1;l1;'=4 more(0)=-9");
  }

  private static void moreRefusals(Sentences s) {
    s.test(18, "MORE; -9. -1.", "below the first SPAN", SEVEN + " more(-1)=-1 more(MIN)=-1");
    s.test(18, "MORE; -9. -1.", "the last SPAN, and none behind it", SEVEN + " more(5)=18 more(6)=-1 more(MAX)=-1");
    s.test(18, "MORE; -9. -1.", "the first SPAN", SEVEN + " more(0)=18");
    s.test(18, "MORE; -9. -1.", "no such SPAN, and it does not HOLD", "'bb9,0;bb9,0;s0,19;'=3 more(6)=-1 count(11)=1");
    s.test(18, "MORE; -9. -1.", "-9 is no REFUSAL", "'bb9,0;bb9,0;s0,19;'=3 more(0)=-9 count(11)=0 count(14)=0 count(16)=0");
    s.test(18, "MORE; -9. -1.", "WEIGHT stays", "'bb9,0;bb9,0;s0,10;'=3 more(0)=8 span(0,0)=10");
  }
}
