/** Promises 19, 20 and 24: a ROW of told LOADS, who SLACKED by it, and how it is JUDGED. */
final class RowCases {
  private static final String ROW = "A number more of the ROW (0 .. 400): how many. -4; -6 (400; 7, too).";
  private static final String SLACKED = "SLACKED: a ROW is told (LOADS of PILLARS by numbers, 0 .. 400; 7 at most): BEARERS (bits) who,"
      + " did he alone not BEAR, would leave just these LOADS; 128 more, if they are so as it is.";
  private static final String SLACKED_FACE = "SLACKED (bits; the ROW stays). -3 the ROW is not as long as there are BEARERS.";
  private static final String JUDGED = "JUDGED: the ROW as LOADS: the first that is not so; where it ends, if too short;"
      + " how many BEARERS, if too long; else -9.";
  private static final String JUDGED_FACE = "JUDGED; -9 (whichever it answers, the ROW has none then).";
  private static final String THREE = "'bb9,0;bb9,0;bb9,0;s0,5;s1,7;'=5"; // LOADS 5, 12, 7
  private static final String SEVEN = "'" + "bb9,0;".repeat(7) + "'=7";

  private RowCases() {}

  static void tell(Sentences s) {
    row(s);
    slacked(s);
    slackedBesides(s);
    slackedRefusals(s);
    judged(s);
    judgedThen(s);
  }

  private static void row(Sentences s) {
    s.test(19, ROW, "the least number", "row(0)=1");
    s.test(19, ROW, "the greatest number", "row(400)=1");
    s.test(19, ROW, "none", "count(6)=0");
    s.test(19, ROW, "full", "6*row(1)=6 row(1)=7 count(6)=7");
    s.test(19, ROW, "below the least", "row(-1)=-4 row(MIN)=-4 count(6)=0");
    s.test(19, ROW, "above 400", "row(401)=-6 row(MAX)=-6 count(6)=0");
    s.test(19, ROW, "above 7", "7*row(1)=7 row(1)=-6 count(6)=7");
    s.test(19, ROW, "below the least, and full", "7*row(1) row(-1)=-4 count(14)=1 count(16)=0");
    s.test(19, ROW, "above 400, and full", "7*row(1) row(401)=-6 count(16)=1");
    s.test(19, ROW, "more than there are BEARERS", "'bb9,0;'=1 row(0)=1 row(0)=2");
    s.test(19, ROW, "from the first again behind a judgement", "7*row(1) judge row(1)=1");
    s.test(19, ROW, "what is refused does not come", THREE + " row(5) row(-1) row(12) row(401) row(7)=3 judge=-9");
    s.test(19, ROW, "full, it stays as it was", SEVEN + " 7*row(0) row(1)=-6 judge=-9");
  }

  private static void slacked(Sentences s) {
    s.test(20, SLACKED, "as it is", THREE + " row(5) row(12) row(7) slacked=128");
    s.test(20, SLACKED, "the first", THREE + " row(0) row(17) row(7) slacked=1");
    s.test(20, SLACKED, "the middle one", THREE + " row(10) row(0) row(14) slacked=2");
    s.test(20, SLACKED, "the last", THREE + " row(5) row(19) row(0) slacked=4");
    s.test(20, SLACKED, "none, two of them", THREE + " row(0) row(24) row(0) slacked=0");
    s.test(20, SLACKED, "none, the first is a half more", THREE + " row(1) row(17) row(7) slacked=0");
    s.test(20, SLACKED, "none, the last is a half more", THREE + " row(5) row(12) row(8) slacked=0");
    s.test(20, SLACKED, "the seventh", SEVEN + " span(5,3) 5*row(0) row(6) row(0) slacked=64");
    s.test(20, SLACKED, "all seven, and as it is, without WEIGHT", SEVEN + " 7*row(0) slacked=255");
    s.test(20, SLACKED, "two who would leave the same", "'bb9,0;bb9,0;bb9,0;s0,5;'=4 row(5) row(5) row(0) slacked=132");
    s.test(20, SLACKED, "one who does not BEAR leaves it as it is", "'bb9,0;bs9,0;s0,5;'=3 row(10) row(0) slacked=130");
    s.test(20, SLACKED, "nobody, and no ROW", "slacked=128");
  }

  private static void slackedBesides(Sentences s) {
    s.test(20, SLACKED, "the greatest LOAD there can be",
        "'bb1,0;bb1,1;bb1,0;s0,99;s1,99;l1;'=6 row(0) row(396) row(0) slacked=133");
    s.test(20, SLACKED, "the greatest number, no LOAD is so", THREE + " row(5) row(400) row(7) slacked=0");
    s.test(20, SLACKED, "whether it HOLDS or not",
        "'bb1,0;bb1,0;s0,99;'=3 holds=0 row(99) row(99) slacked=128 judge row(0) row(198) slacked=1");
    s.test(20, SLACKED, "a SPAN that would fall", "'bb9,0;bs9,0;s0,5;'=3 row(0) row(0) slacked=1");
  }

  private static void slackedRefusals(Sentences s) {
    s.test(20, SLACKED_FACE, "the ROW stays", THREE + " row(5) row(12) row(7) slacked=128 count(6)=3 slacked=128");
    s.test(20, SLACKED_FACE, "no ROW", THREE + " slacked=-3 count(13)=1");
    s.test(20, SLACKED_FACE, "too short by one", THREE + " row(5) row(12) slacked=-3");
    s.test(20, SLACKED_FACE, "too long by one", THREE + " row(5) row(12) row(7) row(0) slacked=-3");
    s.test(20, SLACKED_FACE, "too long, nobody", "row(0) slacked=-3 count(6)=1");
    s.test(20, SLACKED_FACE, "full, six BEARERS", "'" + "bb9,0;".repeat(6) + "'=6 7*row(0) slacked=-3");
    s.test(20, SLACKED_FACE, "long enough, till a BEARER comes",
        THREE + " row(5) row(12) row(7) slacked=128 'bb9,0;'=1 slacked=-3");
  }

  private static void judged(Sentences s) {
    s.test(24, JUDGED, "all is so", THREE + " row(5) row(12) row(7) judge=-9");
    s.test(24, JUDGED, "the first is not so, a half less", THREE + " row(4) row(12) row(7) judge=0");
    s.test(24, JUDGED, "the first is not so, a half more", THREE + " row(6) row(12) row(7) judge=0");
    s.test(24, JUDGED, "the last is not so", THREE + " row(5) row(12) row(8) judge=2");
    s.test(24, JUDGED, "two are not so", THREE + " row(5) row(13) row(8) judge=1");
    s.test(24, JUDGED, "the seventh is not so", SEVEN + " 6*row(0) row(1) judge=6");
    s.test(24, JUDGED, "all seven are so", SEVEN + " 7*row(0) judge=-9");
    s.test(24, JUDGED, "too short, none", THREE + " judge=0");
    s.test(24, JUDGED, "too short by one", THREE + " row(5) row(12) judge=2");
    s.test(24, JUDGED, "too long by one", THREE + " row(5) row(12) row(7) row(0) judge=3");
    s.test(24, JUDGED, "too long by four", THREE + " row(5) row(12) row(7) 4*row(0) judge=3");
    s.test(24, JUDGED, "too short, and one is not so", THREE + " row(6) row(12) judge=0");
    s.test(24, JUDGED, "too short, and the last told is not so", THREE + " row(5) row(13) judge=1");
    s.test(24, JUDGED, "too long, and one is not so", THREE + " row(5) row(12) row(8) row(0) judge=2");
    s.test(24, JUDGED, "nobody, and none", "judge=-9");
    s.test(24, JUDGED, "nobody, too long", "row(0) judge=0");
    s.test(24, JUDGED, "the greatest LOAD there can be",
        "'bb1,0;bb1,1;bb1,0;s0,99;s1,99;l1;'=6 row(0) row(396) row(0) judge=-9");
    s.test(24, JUDGED, "LOADS as they are now", THREE + " row(5) row(12) row(7) span(1,8) judge=1");
  }

  private static void judgedThen(Sentences s) {
    s.test(24, JUDGED_FACE, "all is so", THREE + " row(5) row(12) row(7) judge=-9 count(6)=0 judge=0");
    s.test(24, JUDGED_FACE, "one is not so", THREE + " row(6) row(12) row(7) judge=0 count(6)=0");
    s.test(24, JUDGED_FACE, "too short", THREE + " row(5) judge=1 count(6)=0");
    s.test(24, JUDGED_FACE, "too long", "row(0) judge=0 count(6)=0 judge=-9");
    s.test(24, JUDGED_FACE, "no REFUSAL", THREE + " row(5) judge=1 judge=0 count(13)=0 count(16)=0");
  }
}
