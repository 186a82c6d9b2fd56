/** Promise 28, and REFUSALS of every kind. */
final class CountCases {
  private static final String COUNT = "0 BEARERS, 1 AT, 2 LEVEL, 3 all WEIGHT, 4 all LOADS, 5 how many BEAR, 6 in the ROW, 7 letters,"
      + " 11 .. 16 REFUSALS -1 .. -6. -9 for another what.";
  private static final String REFUSALS = "REFUSALS (the call answers the number, the first that fits in the order in which it tells"
      + " them; nothing changes but how many there were):";
  private static final String NOBODY = "-1 NOBODY: no such BEARER, SPAN, PLACE.";
  private static final String OTHER = "-2 OTHER: what.";
  private static final String STATE = "-3 STATE: it is not as it must be.";
  private static final String BELOW = "-4 BELOW: a number below the least.";
  private static final String ROOM = "-6 ROOM: a number above the greatest, no room.";
  private static final String LIFE =
      "An object is used for at most 512 calls after it has been made; what later calls answer is free.";
  private static final String SEVEN = "'" + "bb9,1;".repeat(7) + "'=7";

  private CountCases() {}

  static void tell(Sentences s) {
    counts(s);
    others(s);
    counted(s);
    nothingChanges(s);
    order(s);
    life(s);
  }

  private static void counts(Sentences s) {
    s.test(28, COUNT, "0 BEARERS, none and seven", "count(0)=0 " + SEVEN + " count(0)=7");
    s.test(28, COUNT, "1 AT, the least and the greatest", "count(1)=0 at(15) count(1)=15");
    s.test(28, COUNT, "2 LEVEL, the least and the greatest", "count(2)=0 level(27) count(2)=27");
    s.test(28, COUNT, "3 all WEIGHT, none", "count(3)=0");
    s.test(28, COUNT, "3 all WEIGHT, the greatest",
        SEVEN + " span(0,99) span(1,99) span(2,99) span(3,99) span(4,99) span(5,99) count(3)=594");
    s.test(28, COUNT, "3 all WEIGHT, of SPANS that lack a BEARER, too", "span(0,1) span(5,2) count(3)=3");
    s.test(28, COUNT, "4 all LOADS, nobody", "span(0,9) count(4)=0");
    s.test(28, COUNT, "4 all LOADS, seven who BEAR", SEVEN + " 's0,1;s1,2;s2,3;s3,4;s4,5;s5,6;'=6 count(4)=42");
    s.test(28, COUNT, "4 all LOADS, the last SPAN", SEVEN + " 's5,99;'=1 count(4)=198");
    s.test(28, COUNT, "4 all LOADS, none BEARS", SEVEN + " 's5,99;l2;'=2 count(4)=0");
    s.test(28, COUNT, "5 how many BEAR, none and seven",
        "count(5)=0 " + SEVEN + " count(5)=7 level(1) count(5)=7 level(2) count(5)=0");
    s.test(28, COUNT, "5 how many BEAR, one is SICK", "'bb9,0;bs9,0;bb9,0;'=3 count(5)=2");
    s.test(28, COUNT, "6 in the ROW, none and seven", "count(6)=0 7*row(0) count(6)=7");
    s.test(28, COUNT, "7 letters, none and 96", "count(7)=0 96*letter(0) count(7)=96");
    s.test(28, COUNT, "11 .. 16 at first", "count(11)=0 count(12)=0 count(13)=0 count(14)=0 count(15)=0 count(16)=0");
  }

  private static void others(Sentences s) {
    s.test(28, COUNT, "below 0", "count(-1)=-9 count(MIN)=-9");
    s.test(28, COUNT, "between 7 and 11", "count(8)=-9 count(9)=-9 count(10)=-9");
    s.test(28, COUNT, "above 16", "count(17)=-9 count(MAX)=-9");
    s.test(28, COUNT, "-9 is no REFUSAL", "count(-1)=-9 count(17)=-9 count(11)=0 count(12)=0 count(14)=0 count(16)=0");
    s.test(28, COUNT, "15 stays 0", "level(-1) level(28) bearer(0,0) on count(15)=0");
    s.test(28, COUNT, "each REFUSAL by its number", "'bb9,0;'=1 bearer(1,0) 2*bearer(0,8) 3*on 4*level(-1) 5*level(28)"
        + " count(11)=1 count(12)=2 count(13)=3 count(14)=4 count(15)=0 count(16)=5");
  }

  private static void counted(Sentences s) {
    s.test(28, NOBODY, "each call",
        "bearer(0,0)=-1 span(6,0)=-1 ground(16,0)=-1 block(0,0)=-1 load(0)=-1 orders(0)=-1 more(6)=-1 count(11)=7");
    s.test(28, OTHER, "each call", "'bb9,0;'=1 bearer(0,8)=-2 bearer(0,-1)=-2 count(12)=2");
    s.test(28, STATE, "each call", "row(0) slacked=-3 on=-3 count(13)=2");
    s.test(28, BELOW, "each call", "'bb9,0;'=1 letter(-1)=-4 span(0,-1)=-4 ground(0,-1)=-4 level(-1)=-4 block(0,-1)=-4 at(-1)=-4"
        + " row(-1)=-4 way(-1)=-4 reach(-1)=-4 lowest(-1,0)=-4 lowest(0,-1)=-4 seeds(0,0)=-4 count(14)=12");
    s.test(28, ROOM, "each call, a number above the greatest", "'bb9,0;'=1 letter(256)=-6 span(0,100)=-6 ground(0,10)=-6 level(28)=-6"
        + " block(0,10)=-6 at(16)=-6 row(401)=-6 way(16)=-6 reach(41)=-6 lowest(16,0)=-6 lowest(0,41)=-6 seeds(31,0)=-6 count(16)=12");
    s.test(28, ROOM, "each call, no room", "96*letter(0) letter(0)=-6 7*row(0) row(0)=-6 count(16)=2");
    s.test(28, ROOM, "each call, a PILLAR beyond PLACE 15", SEVEN + " at(10)=-6 way(10)=-6 lowest(10,0)=-6 count(16)=3");
  }

  private static void nothingChanges(Sentences s) {
    String before = "at(2) 'bb9,1;bc8,2;s0,5;s5,6;g3,4;l3;k1,7;'=7 image level(2) row(10) row(0) letter(108) letter(49)";
    String nobody = "bearer(2,0)=-1 bearer(-1,0)=-1 span(6,9)=-1 span(-1,9)=-1 ground(16,9)=-1 ground(-1,9)=-1 block(2,9)=-1"
        + " block(-1,9)=-1 load(2)=-1 load(-1)=-1 orders(2)=-1 orders(-2)=-1 more(6)=-1 more(-1)=-1";
    s.unchanged(28, REFUSALS, "nothing changes with -1", before, nobody);
    s.unchanged(28, REFUSALS, "nothing changes with -2", before, "bearer(0,8)=-2 bearer(1,-1)=-2");
    s.unchanged(28, REFUSALS, "nothing changes with -3 of ON", "at(2) 'bb9,1;s0,5;'=2 row(10)", "on=-3");
    s.unchanged(28, REFUSALS, "nothing changes with -3 of SLACKED", before + " row(7)", "slacked=-3");
    s.unchanged(28, REFUSALS, "nothing changes with -4", before, "letter(-1)=-4 span(0,-1)=-4 ground(3,-1)=-4 level(-1)=-4"
        + " block(1,-1)=-4 at(-1)=-4 row(-1)=-4 way(-1)=-4 reach(-1)=-4 lowest(-1,0)=-4 lowest(0,-1)=-4 seeds(0,0)=-4");
    s.unchanged(28, REFUSALS, "nothing changes with -6", before, "letter(256)=-6 span(0,100)=-6 ground(3,10)=-6 level(28)=-6"
        + " block(1,10)=-6 at(15)=-6 at(16)=-6 row(401)=-6 way(15)=-6 way(16)=-6 reach(41)=-6 lowest(15,0)=-6 lowest(16,0)=-6"
        + " lowest(0,41)=-6 seeds(31,0)=-6");
  }

  private static void order(Sentences s) {
    s.test(28, REFUSALS, "-1 ahead of -2", "bearer(0,8)=-1 count(11)=1 count(12)=0");
    s.test(28, REFUSALS, "-1 ahead of -4", "span(6,-1)=-1 ground(16,-1)=-1 block(0,-1)=-1 count(11)=3 count(14)=0");
    s.test(28, REFUSALS, "-1 ahead of -6", "span(6,100)=-1 ground(16,10)=-1 block(0,10)=-1 count(11)=3 count(16)=0");
    s.test(28, REFUSALS, "-4 ahead of -6", "96*letter(0) letter(-1)=-4 7*row(0) row(-1)=-4 lowest(-1,41)=-4 lowest(16,-1)=-4"
        + " count(14)=4 count(16)=0");
    s.test(28, REFUSALS, "two reasons for one number count once", SEVEN + " at(16)=-6 way(16)=-6 lowest(16,41)=-6 lowest(-1,-1)=-4"
        + " count(16)=3 count(14)=1");
    s.test(28, REFUSALS, "behind a REFUSAL all goes on",
        "level(28)=-6 level(27)=0 level(-1)=-4 level(0)=27 bearer(0,0)=-1 'bb9,0;'=1 bearer(0,1)=9");
  }

  private static void life(Sentences s) {
    s.test(28, LIFE, "the 512th call", "511*level(28)=-6 count(16)=511");
    s.test(28, LIFE, "the 512th call of those that seek far", SEVEN + " 467*orders(6)=6 orders(-1)=5040 count(0)=7");
    s.test(28, LIFE, "the 512th call of those that go far", "511*way(15)=15 way(14)=14");
  }
}
