/** Promises 21 to 23: the way of the whole roof, how far it can be, how low it can stand. */
final class WayCases {
  private static final String WAY = "WAY: the whole roof goes on by a PLACE (AT 1 more or less) or LEVEL is 1 more or less, one a minute;"
      + " it must HOLD behind each, and ahead of the first: the fewest minutes till AT is a told one; -9.";
  private static final String REACH = "REACH: AT (bits) where it can be within n minutes (0 .. 40).";
  private static final String LOWEST =
      "LOWEST: the least LEVEL at which it can stand, AT a told one, within n minutes; -9.";
  private static final String WAY_FACE = "WAY; -9. -4; -6 (15; a PILLAR beyond PLACE 15).";
  private static final String REACH_FACE = "REACH (bits). -4; -6 40.";
  private static final String LOWEST_FACE = "LOWEST; -9. -4; -6 (15; a PILLAR beyond PLACE 15; 40).";
  private static final String TWO = "'bb9,0;bb9,0;'=2";
  private static final String SEVEN = "'" + "bb9,0;".repeat(7) + "'=7";
  private static final String HEAVY = "'bb9,0;bb9,0;s0,19;'=3";

  /** From place 3 on the ground is 1 lower: there it must be at LEVEL 0. */
  private static final String STEP = "'bh10,0;bh10,0;s0,5;l1;g0,1;g1,1;g2,1;'=7";
  /** From place 4 on the ground is 5 higher: the first one can't STOOP there, so LEVEL must be 8. */
  private static final String HILL = "'bb10,3;bh10,3;s0,11;l3;g4,5;g5,5;'=6";
  /** Both must BEAR and none may STOOP, so there is no way to where they stand at two heights. */
  private static final String WALL = "'bb5,0;bb5,0;s0,10;g3,1;'=4";
  /** LEVEL must be the first one's TOP at least, and the same or the second one's TOP at most: up and down again. */
  private static final String LONG =
      "'bb5,4;bh23,8;s0,5;l4;g2,8;g3,4;g4,4;g6,8;g7,2;g8,4;g10,8;g12,4;g14,9;g15,9;'=14";

  private WayCases() {}

  static void tell(Sentences s) {
    way(s);
    wayMustHold(s);
    reach(s);
    lowest(s);
    wayRefusals(s);
    reachRefusals(s);
    lowestRefusals(s);
  }

  private static void way(Sentences s) {
    s.test(21, WAY, "where it is", "way(0)=0 " + STEP + " way(0)=0");
    s.test(21, WAY, "1 more", "way(1)=1");
    s.test(21, WAY, "1 less", "at(15) way(14)=1");
    s.test(21, WAY, "from the first to the last", "way(15)=15");
    s.test(21, WAY, "from the last to the first", "at(15) way(0)=15");
    s.test(21, WAY, "from the last to the first of seven", SEVEN + " at(9) way(0)=9");
    s.test(21, WAY, "LEVEL is 1 less on the way", STEP + " way(2)=2 way(3)=4 way(4)=5 way(14)=15");
    s.test(21, WAY, "LEVEL is more on the way", HILL + " way(3)=3 way(4)=9");
    s.test(21, WAY, "more than 40 minutes", LONG + " way(12)=40 way(13)=41 way(14)=47");
    s.test(21, WAY, "LEVEL does not go round above 27", "level(27) way(1)=1 lowest(1,1)=27");
    s.test(21, WAY, "AT and LEVEL stay", STEP + " way(14)=15 count(1)=0 count(2)=1");
  }

  private static void wayMustHold(Sentences s) {
    s.test(21, WAY, "none, a wall", WALL + " way(1)=1 way(2)=-9 way(3)=-9 way(14)=-9");
    s.test(21, WAY, "none back, a wall", WALL + " at(4) way(4)=0 way(5)=1 way(3)=-9 way(2)=-9 way(1)=-9");
    s.test(21, WAY, "none back, though an earlier way was there",
        "'bb5,0;bb5,0;s0,10;g12,1;'=4 way(10)=10 at(13) way(14)=1 way(10)=-9 way(0)=-9");
    s.test(21, WAY, "it does not HOLD ahead of the first", HEAVY + " way(1)=-9");
    s.test(21, WAY, "it does not HOLD, where it is", HEAVY + " way(0)=-9");
    s.test(21, WAY, "it does not HOLD, but would behind the first",
        "'bb9,1;bb9,1;s0,18;g2,1;'=4 holds=0 way(0)=-9 way(1)=-9 level(1) way(0)=0");
    s.test(21, WAY, "it HOLDS, but behind none", "'bb9,1;bb9,1;s0,18;g0,1;g1,1;l2;'=6 holds=1 way(0)=0 way(1)=-9");
    s.test(21, WAY, "by a half", "'bb9,0;bh9,0;s0,9;l1;g0,1;g1,1;g2,1;'=7 way(2)=2 span(0,10) way(1)=1 way(2)=-9");
  }

  private static void reach(Sentences s) {
    s.test(22, REACH, "0 minutes", "reach(0)=1 at(15) reach(0)=32768");
    s.test(22, REACH, "1 minute, at the first", "reach(1)=3");
    s.test(22, REACH, "1 minute, in the midst", "at(7) reach(1)=448");
    s.test(22, REACH, "1 minute, at the last", "at(15) reach(1)=49152");
    s.test(22, REACH, "just not to the last, and to it", "reach(14)=32767 reach(15)=65535");
    s.test(22, REACH, "40 minutes, nobody", "reach(40)=65535");
    s.test(22, REACH, "40 minutes, seven", SEVEN + " reach(40)=1023");
    s.test(22, REACH, "a minute too few, and enough", STEP + " reach(2)=7 reach(3)=7 reach(4)=15");
    s.test(22, REACH, "just within 40 minutes", LONG + " reach(39)=4095 reach(40)=8191");
    s.test(22, REACH, "none beyond a wall", WALL + " reach(40)=3 at(5) reach(40)=32752");
    s.test(22, REACH, "it does not HOLD", HEAVY + " reach(0)=0 reach(40)=0");
    s.test(22, REACH, "LEVEL does not go round above 27", "level(27) reach(0)=1 reach(1)=3");
  }

  private static void lowest(Sentences s) {
    s.test(23, LOWEST, "0 minutes", "level(9) lowest(0,0)=9");
    s.test(23, LOWEST, "1 minute", "level(9) lowest(0,1)=8");
    s.test(23, LOWEST, "it is at the least already", "lowest(0,0)=0 lowest(0,40)=0");
    s.test(23, LOWEST, "from 27 to 0, and a minute too few", "level(27) lowest(0,27)=0 lowest(0,26)=1");
    s.test(23, LOWEST, "40 minutes are enough, and just not",
        "level(27) lowest(13,40)=0 lowest(14,40)=1 lowest(15,40)=2 lowest(13,39)=1");
    s.test(23, LOWEST, "no minute is left at the told AT", "level(27) lowest(15,15)=27 lowest(15,14)=-9");
    s.test(23, LOWEST, "it can't be there so soon", STEP + " lowest(3,3)=-9 lowest(3,4)=0");
    s.test(23, LOWEST, "it can be there as it is", STEP + " lowest(2,2)=1 lowest(2,3)=0");
    s.test(23, LOWEST, "it must be higher there", HILL + " lowest(4,8)=-9 lowest(4,9)=8 lowest(4,40)=8");
    s.test(23, LOWEST, "just within 40 minutes", LONG + " lowest(12,39)=-9 lowest(12,40)=8 lowest(13,40)=-9");
    s.test(23, LOWEST, "none beyond a wall", WALL + " lowest(1,1)=0 lowest(2,40)=-9");
    s.test(23, LOWEST, "it does not HOLD", HEAVY + " lowest(0,0)=-9 lowest(0,40)=-9");
    s.test(23, LOWEST, "AT and LEVEL stay", "level(9) lowest(3,40)=0 count(1)=0 count(2)=9");
  }

  private static void wayRefusals(Sentences s) {
    s.test(21, WAY_FACE, "below the least", "way(-1)=-4 way(MIN)=-4");
    s.test(21, WAY_FACE, "above 15", "way(16)=-6 way(MAX)=-6");
    s.test(21, WAY_FACE, "a PILLAR beyond PLACE 15, two", TWO + " way(14)=14 way(15)=-6");
    s.test(21, WAY_FACE, "a PILLAR beyond PLACE 15, seven", SEVEN + " way(9)=9 way(10)=-6");
    s.test(21, WAY_FACE, "no PILLAR beyond PLACE 15, one", "'bb9,0;'=1 way(15)=15");
    s.test(21, WAY_FACE, "above 15, and a PILLAR beyond PLACE 15", TWO + " way(16)=-6 count(16)=1");
    s.test(21, WAY_FACE, "below the least, and it does not HOLD", HEAVY + " way(-1)=-4");
    s.test(21, WAY_FACE, "above, and it does not HOLD", HEAVY + " way(15)=-6 way(16)=-6");
    s.test(21, WAY_FACE, "-9 is no REFUSAL", HEAVY + " way(1)=-9 count(13)=0 count(14)=0 count(16)=0");
  }

  private static void reachRefusals(Sentences s) {
    s.test(22, REACH_FACE, "below the least", "reach(-1)=-4 reach(MIN)=-4");
    s.test(22, REACH_FACE, "above 40", "reach(41)=-6 reach(MAX)=-6");
    s.test(22, REACH_FACE, "the least and the greatest", "reach(0)=1 reach(40)=65535");
    s.test(22, REACH_FACE, "refused, and it does not HOLD", HEAVY + " reach(-1)=-4 reach(41)=-6");
  }

  private static void lowestRefusals(Sentences s) {
    s.test(23, LOWEST_FACE, "AT below the least", "lowest(-1,0)=-4 lowest(MIN,0)=-4");
    s.test(23, LOWEST_FACE, "minutes below the least", "lowest(0,-1)=-4 lowest(0,MIN)=-4");
    s.test(23, LOWEST_FACE, "both below the least", "lowest(-1,-1)=-4 count(14)=1");
    s.test(23, LOWEST_FACE, "AT above 15", "lowest(16,0)=-6 lowest(MAX,0)=-6");
    s.test(23, LOWEST_FACE, "a PILLAR beyond PLACE 15, two", TWO + " lowest(14,40)=0 lowest(15,40)=-6");
    s.test(23, LOWEST_FACE, "a PILLAR beyond PLACE 15, seven", SEVEN + " lowest(9,40)=0 lowest(10,40)=-6");
    s.test(23, LOWEST_FACE, "no PILLAR beyond PLACE 15, one", "'bb9,0;'=1 lowest(15,15)=0");
    s.test(23, LOWEST_FACE, "minutes above 40", "lowest(0,41)=-6 lowest(0,MAX)=-6");
    s.test(23, LOWEST_FACE, "both above", "lowest(16,41)=-6 count(16)=1");
    s.test(23, LOWEST_FACE, "AT below, minutes above", "lowest(-1,41)=-4 count(14)=1 count(16)=0");
    s.test(23, LOWEST_FACE, "AT above, minutes below", "lowest(16,-1)=-4 count(14)=1 count(16)=0");
    s.test(23, LOWEST_FACE, "a PILLAR beyond PLACE 15, minutes below", TWO + " lowest(15,-1)=-4");
    s.test(23, LOWEST_FACE, "refused, and it does not HOLD", HEAVY + " lowest(-1,0)=-4 lowest(15,0)=-6 lowest(0,41)=-6");
    s.test(23, LOWEST_FACE, "-9 is no REFUSAL", HEAVY + " lowest(0,0)=-9 count(13)=0 count(14)=0 count(16)=0");
  }
}
