/** Promise 3: the FAULTS of a ROOF, and what comes with one and without. */
final class FaultCases {
  private static final String FORM =
      "FAULT: kind 1 the place of the first letter with which no ROOF can go on (the end, if something lacks): -1000 less the place;";
  private static final String SENSE =
      "else kind 2 the place of the first letter of the first STATEMENT that, behind all ahead of it in the text, is not as it must be"
      + " (a number out of range, no such BEARER ahead of it, no room for a BEARER more, or for his PILLAR): -2000 less the place.";
  private static final String ALL = "Without FAULT all of it comes, with one nothing.";
  private static final String EACH = "bb10,3;s0,55;g15,9;l27;k0,9;";
  private static final String SEVEN = "bb1,0;".repeat(7);

  private FaultCases() {}

  static void tell(Sentences s) {
    form(s);
    range(s);
    bearers(s);
    room(s);
    which(s);
    comes(s);
  }

  private static void form(Sentences s) {
    s.of(3, FORM, "each letter at place 0");
    for (int c = 0; c < 256; c++) {
      int due = "bsglk".indexOf((char) c) < 0 ? -1000 : -1001;
      s.due("roof of letter " + c, Sentences.tell(new EachBearsPillar(), "" + (char) c), due);
      s.due("roof of letter " + c + " and x", Sentences.tell(new EachBearsPillar(), (char) c + "x"), due);
    }
    s.of(3, FORM, "the end, wherever a text breaks off");
    int whole = 0;
    for (int length = 0; length <= EACH.length(); length++) {
      boolean ends = length > 0 && EACH.charAt(length - 1) == ';';
      whole += ends ? 1 : 0;
      String text = EACH.substring(0, length);
      s.due("roof of \"" + text + "\"", Sentences.tell(new EachBearsPillar(), text), ends ? whole : -1000 - length);
    }
    s.of(3, FORM, "a wrong letter at each place of a text");
    for (int place = 0; place < EACH.length(); place++) {
      String text = EACH.substring(0, place) + "?" + EACH.substring(place + 1);
      s.due("roof of \"" + text + "\"", Sentences.tell(new EachBearsPillar(), text), -1000 - place);
    }
    s.test(3, FORM, "the first of two wrong letters", "'l?;?'=-1001");
    s.test(3, FORM, "the least letter", "letter(108) letter(0) roof=-1001");
    s.test(3, FORM, "the greatest letter", "letter(108) letter(255) roof=-1001");
    s.test(3, FORM, "at the last place", "'" + "l1;".repeat(31) + "l1x'=-1095");
    s.test(3, FORM, "the end of 96 letters", "'" + "l1;".repeat(31) + "bb1'=-1096");
    s.test(3, FORM, "the end of 96 letters, the last of which waits for ;", "'" + "l1;".repeat(31) + "l12'=-1096");
  }

  private static void range(Sentences s) {
    s.test(3, SENSE, "STRENGTH 0", "'bb0,0;'=-2000");
    s.test(3, SENSE, "STRENGTH 00", "'bb00,0;'=-2000");
    s.test(3, SENSE, "STRENGTH 0 of each KIND",
        "'bc0,0;'=-2000 'bt0,0;'=-2000 'bs0,0;'=-2000 'bl0,0;'=-2000 'bh0,0;'=-2000");
    s.test(3, SENSE, "STRENGTH 1 and 99 are in range", "'bb1,0;bb99,0;'=2");
    s.test(3, SENSE, "SPAN 6", "'s6,0;'=-2000");
    s.test(3, SENSE, "SPAN 9", "'s9,99;'=-2000");
    s.test(3, SENSE, "SPAN 5 is in range", "'s5,99;'=1");
    s.test(3, SENSE, "PLACE 16", "'g16,0;'=-2000");
    s.test(3, SENSE, "PLACE 99", "'g99,9;'=-2000");
    s.test(3, SENSE, "PLACE 15 is in range", "'g15,9;'=1");
    s.test(3, SENSE, "LEVEL 28", "'l28;'=-2000");
    s.test(3, SENSE, "LEVEL 99", "'l99;'=-2000");
    s.test(3, SENSE, "LEVEL 27 is in range", "'l27;'=1");
  }

  private static void bearers(Sentences s) {
    s.test(3, SENSE, "a BLOCK under nobody", "'k0,0;'=-2000");
    s.test(3, SENSE, "a BLOCK ahead of its BEARER", "'k0,0;bb1,0;'=-2000");
    s.test(3, SENSE, "a BLOCK behind its BEARER", "'bb1,0;k0,1;'=2");
    s.test(3, SENSE, "a BLOCK under the BEARER who would come next", "'bb1,0;k1,0;'=-2006");
    s.test(3, SENSE, "a BLOCK under a BEARER of an earlier text", "'bb1,0;'=1 'k0,1;'=1");
    s.test(3, SENSE, "a BLOCK under a BEARER who did not come", "'bb1,0;k1,0;'=-2006 'k0,0;'=-2000");
    s.test(3, SENSE, "a BLOCK under the last of seven", "'" + SEVEN + "k6,9;'=8");
    s.test(3, SENSE, "a BLOCK under an eighth", "'" + SEVEN + "k7,0;'=-2042");
    s.test(3, SENSE, "a BLOCK under a tenth", "'" + SEVEN + "k9,9;'=-2042");
  }

  private static void room(Sentences s) {
    s.test(3, SENSE, "an eighth BEARER in a text", "'" + SEVEN + "bb1,0;'=-2042 count(0)=0");
    s.test(3, SENSE, "an eighth BEARER behind seven", "'" + SEVEN + "'=7 'bb1,0;'=-2000 count(0)=7");
    s.test(3, SENSE, "a seventh and an eighth", "'" + SEVEN.substring(6) + "'=6 'bb1,0;bb1,0;'=-2006 count(0)=6");
    s.test(3, SENSE, "a second PILLAR with AT 15", "at(15) 'bb1,0;bb1,0;'=-2006 count(0)=0");
    s.test(3, SENSE, "a first PILLAR with AT 15", "at(15) 'bb1,0;'=1");
    s.test(3, SENSE, "a second PILLAR with AT 15, one stands", "at(15) 'bb1,0;'=1 'bb1,0;'=-2000");
    s.test(3, SENSE, "seven PILLARS with AT 9", "at(9) '" + SEVEN + "'=7");
    s.test(3, SENSE, "seven PILLARS with AT 10", "at(10) '" + SEVEN + "'=-2036");
    s.test(3, SENSE, "no room for BEARER nor PILLAR", "at(9) '" + SEVEN + "'=7 'bb1,0;'=-2000");
  }

  private static void which(Sentences s) {
    s.test(3, SENSE, "the first of two such", "'l1;l28;s6,0;'=-2003");
    s.test(3, SENSE, "two kinds of such in one", "'" + SEVEN + "bb0,0;'=-2042");
    s.test(3, SENSE, "in the last of a full text", "'" + "l1;".repeat(29) + "s0,0;l28;'=-2092");
    s.test(3, SENSE, "a number out of range ahead of a wrong letter: kind 1", "'l28;x'=-1004");
    s.test(3, SENSE, "a number out of range ahead of an end that lacks: kind 1", "'s6,0;l1'=-1007");
    s.test(3, SENSE, "no BEARER ahead of a wrong letter: kind 1", "'k0,0;k0,00;'=-1009");
    s.test(3, SENSE, "no room ahead of a wrong letter: kind 1", "'" + SEVEN + "bb1,0;,'=-1048");
  }

  private static void comes(Sentences s) {
    String before = "at(2) 'bb9,1;s1,2;g3,4;l5;k0,6;'=5 image";
    String more = "bc7,7;bh1,1;s0,11;s1,22;s5,33;g2,9;g15,8;l9;k0,1;k2,2;";
    s.test(3, ALL, "all of it",
        before + " '" + more + "'=10 count(0)=3 bearer(1,0)=1 bearer(1,1)=7 bearer(1,2)=7 bearer(1,3)=0 bearer(2,0)=5"
            + " bearer(2,3)=2 bearer(0,3)=1 span(0,0)=11 span(1,0)=22 span(5,0)=33 ground(2,0)=9 ground(3,0)=4"
            + " ground(15,0)=8 count(2)=9 count(1)=2");
    s.test(3, ALL, "the later of two for the same", "'l1;l2;s0,1;s0,2;g0,1;g0,2;bb1,1;k0,1;k0,2;'=9 count(2)=2"
        + " span(0,0)=2 ground(0,0)=2 bearer(0,3)=2");
    s.unchanged(3, ALL, "nothing with a wrong letter at the end", before, "'" + more + "x'=-1054");
    s.unchanged(3, ALL, "nothing with an end that lacks", before, "'" + more + "l1'=-1056");
    s.unchanged(3, ALL, "nothing with a number out of range at the end", before, "'" + more + "l28;'=-2054");
    s.unchanged(3, ALL, "nothing without a BEARER at the end", before, "'" + more + "k3,0;'=-2054");
    s.unchanged(3, ALL, "nothing without room at the end", before, "'" + more + "bb1,1;".repeat(5) + "'=-2078");
    s.unchanged(3, ALL, "nothing with a FAULT in the first of them", before, "'l28;" + more + "'=-2000");
  }
}
