/** Promises 5 to 9: SPANS, GROUND, LEVEL, BLOCKS and AT are told. */
final class SettingCases {
  private static final String SPANS = "SPANS: k lies between PILLARS k and k and 1, of a WEIGHT (0 .. 99: 0 at first; 6 of them,"
      + " whether there are BEARERS or not).";
  private static final String GROUND = "GROUND: 16 PLACES 0 .. 15 of HEIGHTS (0 .. 9: 0 at first).";
  private static final String AT = "AT (0 .. 15: 0 at first): the PLACE of PILLAR 0; PILLAR k stands on PLACE AT and k.";
  private static final String LEVEL = "LEVEL of the roof (0 .. 27: 0 at first).";
  private static final String BEYOND = "No PILLAR of a BEARER stands beyond PLACE 15.";
  private static final String SPAN_SET = "WEIGHT: what it was. -1; -4; -6 99.";
  private static final String GROUND_SET = "HEIGHT of a PLACE: what it was. -1; -4; -6 9.";
  private static final String LEVEL_SET = "LEVEL: what it was. -4; -6 27.";
  private static final String BLOCK_SET = "BLOCK: what it was. -1; -4; -6 9.";
  private static final String AT_SET = "AT: what it was. -4; -6 (15; a PILLAR beyond PLACE 15).";
  private static final String TWO = "'bb9,0;bb9,0;'=2";
  private static final String SEVEN = "'" + "bb9,0;".repeat(7) + "'=7";

  private SettingCases() {}

  static void tell(Sentences s) {
    spans(s);
    ground(s);
    level(s);
    block(s);
    at(s);
    atWithPillars(s);
  }

  private static void spans(Sentences s) {
    s.test(5, SPANS, "0 at first", "span(0,0)=0 span(1,0)=0 span(2,0)=0 span(3,0)=0 span(4,0)=0 span(5,0)=0");
    s.of(5, SPANS, "each between its PILLARS");
    for (int k = 0; k < 6; k++) {
      EachBearsPillar x = new EachBearsPillar();
      s.run(x, SEVEN + " span(" + k + ",7)=0");
      for (int p = 0; p < 7; p++) s.due("load(" + p + ") with span " + k, x.load(p), p == k || p == k + 1 ? 7 : 0);
    }
    s.test(5, SPANS, "the greatest without BEARERS", "span(5,99)=0 span(5,0)=99 's5,99;'=1 span(5,0)=99");
    s.test(5, SPANS, "the greatest with one BEARER", "'bb1,0;'=1 span(5,99)=0 span(5,0)=99");
    s.test(5, SPANS, "6 of them, none more", "span(6,0)=-1 's6,0;'=-2000 " + SEVEN + " span(6,0)=-1");
    s.test(5, SPANS, "told ahead of the BEARERS", "span(0,7)=0 " + TWO + " load(0)=7 load(1)=7");
    s.test(5, SPAN_SET, "the least and the greatest", "span(0,99)=0 span(0,0)=99 span(0,99)=0");
    s.test(5, SPAN_SET, "what it is already", "span(0,7)=0 span(0,7)=7 span(0,7)=7");
    s.test(5, SPAN_SET, "no such SPAN, below", "span(-1,0)=-1 span(MIN,0)=-1");
    s.test(5, SPAN_SET, "no such SPAN, above", "span(6,0)=-1 span(MAX,0)=-1");
    s.test(5, SPAN_SET, "below the least", "span(0,-1)=-4 span(5,MIN)=-4");
    s.test(5, SPAN_SET, "above 99", "span(0,100)=-6 span(5,MAX)=-6");
    s.test(5, SPAN_SET, "no such SPAN, and below the least", "span(6,-1)=-1 span(-1,-1)=-1 count(11)=2 count(14)=0");
    s.test(5, SPAN_SET, "no such SPAN, and above 99", "span(6,100)=-1 span(-1,100)=-1 count(11)=2 count(16)=0");
    s.test(5, SPAN_SET, "refused, it stays", "span(0,7) span(0,-1) span(0,100) span(0,0)=7");
  }

  private static void ground(Sentences s) {
    s.of(6, GROUND, "0 at first, each of the 16");
    EachBearsPillar x = new EachBearsPillar();
    for (int p = 0; p < 16; p++) s.due("ground(" + p + ", 9)", x.ground(p, 9), 0);
    for (int p = 0; p < 16; p++) s.due("ground(" + p + ", 0)", x.ground(p, 0), 9);
    s.test(6, GROUND, "the first PLACE and the last", "ground(0,1)=0 ground(15,2)=0 ground(0,0)=1 ground(15,0)=2");
    s.test(6, GROUND, "no PLACE more", "ground(16,0)=-1 'g16,0;'=-2000");
    s.test(6, GROUND_SET, "the least and the greatest", "ground(3,9)=0 ground(3,0)=9 ground(3,9)=0");
    s.test(6, GROUND_SET, "what it is already", "ground(3,7)=0 ground(3,7)=7");
    s.test(6, GROUND_SET, "no such PLACE, below", "ground(-1,0)=-1 ground(MIN,0)=-1");
    s.test(6, GROUND_SET, "no such PLACE, above", "ground(16,0)=-1 ground(MAX,0)=-1");
    s.test(6, GROUND_SET, "below the least", "ground(0,-1)=-4 ground(15,MIN)=-4");
    s.test(6, GROUND_SET, "above 9", "ground(0,10)=-6 ground(15,MAX)=-6");
    s.test(6, GROUND_SET, "no such PLACE, and below the least", "ground(16,-1)=-1 ground(-1,-1)=-1 count(11)=2 count(14)=0");
    s.test(6, GROUND_SET, "no such PLACE, and above 9", "ground(16,10)=-1 ground(-1,10)=-1 count(11)=2 count(16)=0");
    s.test(6, GROUND_SET, "refused, it stays", "ground(0,7) ground(0,-1) ground(0,10) ground(0,0)=7");
  }

  private static void level(Sentences s) {
    s.test(7, LEVEL, "0 at first", "count(2)=0 level(0)=0");
    s.test(7, LEVEL, "the greatest", "level(27)=0 count(2)=27 level(28)=-6 count(2)=27");
    s.test(7, LEVEL_SET, "the least and the greatest", "level(27)=0 level(0)=27 level(0)=0");
    s.test(7, LEVEL_SET, "what it is already", "level(7)=0 level(7)=7");
    s.test(7, LEVEL_SET, "below the least", "level(-1)=-4 level(MIN)=-4");
    s.test(7, LEVEL_SET, "above 27", "level(28)=-6 level(MAX)=-6");
    s.test(7, LEVEL_SET, "refused, it stays", "level(7) level(-1) level(28) level(0)=7");
  }

  private static void block(Sentences s) {
    s.test(8, BLOCK_SET, "0 at first", TWO + " block(0,0)=0 block(1,0)=0");
    s.test(8, BLOCK_SET, "the least and the greatest", TWO + " block(1,9)=0 block(1,0)=9 block(1,9)=0 block(0,0)=0");
    s.test(8, BLOCK_SET, "what it is already", TWO + " block(1,7)=0 block(1,7)=7");
    s.test(8, BLOCK_SET, "nobody", "block(0,0)=-1");
    s.test(8, BLOCK_SET, "no such BEARER, below", TWO + " block(-1,0)=-1 block(MIN,0)=-1");
    s.test(8, BLOCK_SET, "no such BEARER, above", TWO + " block(2,0)=-1 block(MAX,0)=-1");
    s.test(8, BLOCK_SET, "the seventh, and none behind him", SEVEN + " block(6,9)=0 block(6,0)=9 block(7,0)=-1");
    s.test(8, BLOCK_SET, "below the least", TWO + " block(0,-1)=-4 block(1,MIN)=-4");
    s.test(8, BLOCK_SET, "above 9", TWO + " block(0,10)=-6 block(1,MAX)=-6");
    s.test(8, BLOCK_SET, "no such BEARER, and below the least",
        TWO + " block(2,-1)=-1 block(-1,-1)=-1 count(11)=2 count(14)=0");
    s.test(8, BLOCK_SET, "no such BEARER, and above 9", TWO + " block(2,10)=-1 block(-1,10)=-1 count(11)=2 count(16)=0");
    s.test(8, BLOCK_SET, "refused, it stays", TWO + " block(0,7) block(0,-1) block(0,10) block(0,0)=7");
  }

  private static void at(Sentences s) {
    s.test(9, AT, "0 at first", "count(1)=0 at(0)=0");
    s.test(9, AT, "the greatest", "at(15)=0 count(1)=15");
    s.test(9, AT, "the PLACE of PILLAR 0", TWO + " at(3) ground(3,5) bearer(0,4)=5 bearer(1,4)=0");
    s.test(9, AT, "PLACE AT and k", SEVEN + " at(9) ground(15,5) bearer(6,4)=5 bearer(5,4)=0 at(8) bearer(6,4)=0");
    s.test(9, AT_SET, "the least and the greatest", "at(15)=0 at(0)=15 at(0)=0");
    s.test(9, AT_SET, "what it is already", "at(7)=0 at(7)=7");
    s.test(9, AT_SET, "below the least", "at(-1)=-4 at(MIN)=-4");
    s.test(9, AT_SET, "above 15", "at(16)=-6 at(MAX)=-6");
    s.test(9, AT_SET, "above 15, and a PILLAR beyond PLACE 15", TWO + " at(16)=-6 count(16)=1");
    s.test(9, AT_SET, "below the least with seven", SEVEN + " at(-1)=-4 count(14)=1 count(16)=0");
    s.test(9, AT_SET, "refused, it stays", TWO + " at(7) at(-1) at(15) at(16) count(1)=7");
  }

  private static void atWithPillars(Sentences s) {
    s.of(9, AT_SET, "the last AT for each number of BEARERS");
    for (int n = 1; n <= 7; n++) {
      EachBearsPillar x = new EachBearsPillar();
      s.run(x, "'" + "bb9,0;".repeat(n) + "'=" + n + " at(" + (16 - n) + ")=0 at(" + (17 - n) + ")=-6 count(1)=" + (16 - n));
    }
    s.test(9, BEYOND, "AT with two", TWO + " at(14)=0 at(15)=-6");
    s.test(3, BEYOND, "a BEARER more with AT 15", "at(15) 'bb1,0;'=1 'bb1,0;'=-2000 count(0)=1");
    s.test(27, BEYOND, "an image of nobody with AT 15", "at(15) image at(0) " + SEVEN + " on=0 count(0)=0 count(1)=15");
    s.test(27, BEYOND, "an image of seven with AT 0", SEVEN + " image at(9) on=7 count(1)=0 at(10)=-6");
  }
}
