/** Promises 2 and 3: letters, and the form of a ROOF. */
final class LetterCases {
  private static final String COMES = "A letter (0 .. 255) comes: how many there are.";
  private static final String NO = "-4; -6 (255; 96, too).";
  private static final String TEXT = "A ROOF is told in letters, one by one (96 at most): STATEMENTS, each with \";\" behind:";
  private static final String B =
      "\"b\" a letter of a KIND, STRENGTH (1 or 2 digits) \",\" HEIGHT (a digit): a BEARER more;";
  private static final String S = "\"s\" a SPAN (a digit) \",\" WEIGHT (1 or 2 digits);";
  private static final String G = "\"g\" a PLACE (1 or 2 digits) \",\" its HEIGHT (a digit);";
  private static final String L = "\"l\" LEVEL (1 or 2 digits);";
  private static final String K = "\"k\" a BEARER (a digit) \",\" BLOCK (a digit).";
  private static final String ZERO = "Numbers may begin with 0.";
  private static final String LEAST = "At least one STATEMENT.";
  private static final String BECOME =
      "The letters become a ROOF, and are no more (with a FAULT neither): how many STATEMENTS; the FAULT (nothing is counted).";

  private LetterCases() {}

  static void tell(Sentences s) {
    letters(s);
    text(s);
    formOfBearers(s);
    formOfSpansAndGround(s);
    formOfLevelsAndBlocks(s);
    numbers(s);
    roof(s);
  }

  private static void letters(Sentences s) {
    s.test(2, COMES, "the least letter", "letter(0)=1");
    s.test(2, COMES, "the greatest letter", "letter(255)=1");
    s.test(2, COMES, "none", "count(7)=0");
    s.test(2, COMES, "the second", "letter(97) letter(97)=2");
    s.test(2, COMES, "full", "95*letter(108)=95 letter(108)=96 count(7)=96");
    s.test(2, COMES, "the first behind a ROOF", "'l1;' letter(108)=1");
    s.test(2, COMES, "the first behind a FAULT", "'lx' letter(108)=1");
    s.test(2, COMES, "full again behind a ROOF", "96*letter(1) roof 96*letter(1)=96 letter(1)=-6");
    s.test(2, NO, "below the least", "letter(-1)=-4");
    s.test(2, NO, "the least int", "letter(MIN)=-4");
    s.test(2, NO, "above 255", "letter(256)=-6");
    s.test(2, NO, "the greatest int", "letter(MAX)=-6");
    s.test(2, NO, "above 96", "96*letter(97)=96 letter(97)=-6");
    s.test(2, NO, "above 96 again and again", "96*letter(97) 3*letter(97)=-6 count(7)=96 count(16)=3");
    s.test(2, NO, "below the least, and full", "96*letter(97) letter(-1)=-4 count(14)=1 count(16)=0");
    s.test(2, NO, "above 255, and full", "96*letter(97) letter(256)=-6 count(16)=1");
    s.test(2, NO, "a letter that is refused does not come",
        "letter(108) letter(-1)=-4 letter(256)=-6 letter(49) letter(59)=3 roof=1 count(2)=1");
    s.test(2, NO, "96 letters stay as they were", "'" + "l1;".repeat(31) + "l7;" + "0'=32 count(2)=7 count(16)=1");
  }

  private static void text(Sentences s) {
    s.test(3, TEXT, "one statement", "'l1;'=1");
    s.test(3, TEXT, "96 letters", "'" + "l1;".repeat(32) + "'=32");
    s.test(3, TEXT, "96 letters of all kinds",
        "'" + "bb10,3;s0,9;g1,9;l27;k0,9;".repeat(3) + "bb10,3;s0,9;l7;l7;'=19 count(16)=0");
    s.test(3, TEXT, "the last without ;", "'l1;l2'=-1005");
    s.test(3, TEXT, "one without ; ahead of another", "'l1l2;'=-1002");
    s.test(3, TEXT, "two ;", "'l1;;'=-1003");
    s.test(3, TEXT, "; alone", "';'=-1000");
    s.test(3, TEXT, "another letter instead of ;", "'l1:'=-1002 's0,1,'=-1004 'g1,1 '=-1004 'bb1,1.'=-1005");
    s.test(3, TEXT, "a blank between two", "'l1; l2;'=-1003");
  }

  private static void formOfBearers(Sentences s) {
    s.of(3, B, "each letter as a KIND");
    for (int c = 0; c < 256; c++) {
      EachBearsPillar x = new EachBearsPillar();
      int kind = "bctslh".indexOf((char) c);
      s.due("roof of b, letter " + c + " and 1,0;", Sentences.tell(x, "b" + (char) c + "1,0;"), kind < 0 ? -1001 : 1);
      s.due("kind of letter " + c, x.bearer(0, 0), kind);
    }
    s.test(3, B, "no KIND", "'b1,0;'=-1001");
    s.test(3, B, "no STRENGTH", "'bb,0;'=-1002");
    s.test(3, B, "STRENGTH of 1 digit", "'bb9,0;'=1 bearer(0,1)=9");
    s.test(3, B, "STRENGTH of 2 digits", "'bb10,0;'=1 bearer(0,1)=10");
    s.test(3, B, "STRENGTH of 3 digits", "'bb100,0;'=-1004 'bb001,0;'=-1004");
    s.test(3, B, "no , behind 1 digit", "'bb1;'=-1003");
    s.test(3, B, "no , behind 2 digits", "'bb10;'=-1004");
    s.test(3, B, "no HEIGHT", "'bb1,;'=-1004");
    s.test(3, B, "HEIGHT of 2 digits", "'bb1,00;'=-1005");
    s.test(3, B, "the letters beside the digits", "'bb/,0;'=-1002 'bb:,0;'=-1002 'bb1,/;'=-1004 'bb1,:;'=-1004");
    s.test(3, B, "a sign or a blank", "'bb+1,0;'=-1002 'bb-1,0;'=-1002 'bb 1,0;'=-1002 'bb1, 0;'=-1004");
    s.test(3, B, "a BEARER more", "'bb1,0;'=1 count(0)=1 'bb1,0;bb1,0;'=2 count(0)=3");
  }

  private static void formOfSpansAndGround(Sentences s) {
    s.test(3, S, "no SPAN", "'s,0;'=-1001");
    s.test(3, S, "SPAN of 2 digits", "'s00,0;'=-1002");
    s.test(3, S, "no ,", "'s0;'=-1002");
    s.test(3, S, "no WEIGHT", "'s0,;'=-1003");
    s.test(3, S, "WEIGHT of 1 digit", "'s0,9;'=1 span(0,0)=9");
    s.test(3, S, "WEIGHT of 2 digits", "'s0,99;'=1 span(0,0)=99");
    s.test(3, S, "WEIGHT of 3 digits", "'s0,100;'=-1005 's0,000;'=-1005");
    s.test(3, S, "the letters beside the digits", "'s/,0;'=-1001 's:,0;'=-1001 's0,/;'=-1003 's0,:;'=-1003");
    s.test(3, G, "no PLACE", "'g,0;'=-1001");
    s.test(3, G, "PLACE of 1 digit", "'g9,1;'=1 ground(9,0)=1");
    s.test(3, G, "PLACE of 2 digits", "'g10,1;'=1 ground(10,0)=1");
    s.test(3, G, "PLACE of 3 digits", "'g100,0;'=-1003 'g000,0;'=-1003");
    s.test(3, G, "no , behind 1 digit", "'g1;'=-1002");
    s.test(3, G, "no , behind 2 digits", "'g15;'=-1003");
    s.test(3, G, "no HEIGHT", "'g1,;'=-1003");
    s.test(3, G, "HEIGHT of 2 digits", "'g1,00;'=-1004");
    s.test(3, G, "the letters beside the digits", "'g/,0;'=-1001 'g:,0;'=-1001 'g0,/;'=-1003 'g0,:;'=-1003");
  }

  private static void formOfLevelsAndBlocks(Sentences s) {
    s.test(3, L, "no digit", "'l;'=-1001");
    s.test(3, L, "1 digit", "'l9;'=1 count(2)=9");
    s.test(3, L, "2 digits", "'l10;'=1 count(2)=10");
    s.test(3, L, "3 digits", "'l100;'=-1003 'l000;'=-1003");
    s.test(3, L, "two numbers", "'l1,0;'=-1002");
    s.test(3, L, "the letters beside the digits", "'l/;'=-1001 'l:;'=-1001 'l1/;'=-1002 'l1:;'=-1002");
    s.test(3, K, "no BEARER", "'bb1,0;k,0;'=-1007");
    s.test(3, K, "BEARER of 2 digits", "'bb1,0;k00,0;'=-1008");
    s.test(3, K, "no ,", "'bb1,0;k0;'=-1008");
    s.test(3, K, "no BLOCK", "'bb1,0;k0,;'=-1009");
    s.test(3, K, "the least BLOCK", "'bb1,0;k0,1;k0,0;'=3 bearer(0,3)=0");
    s.test(3, K, "the greatest BLOCK", "'bb1,0;k0,9;'=2 bearer(0,3)=9");
    s.test(3, K, "BLOCK of 2 digits", "'bb1,0;k0,00;'=-1010");
    s.test(3, K, "the letters beside the digits", "'k/,0;'=-1001 'k:,0;'=-1001 'k0,/;'=-1003 'k0,:;'=-1003");
  }

  private static void numbers(Sentences s) {
    s.test(3, ZERO, "STRENGTH", "'bb01,0;bb09,0;'=2 bearer(0,1)=1 bearer(1,1)=9");
    s.test(3, ZERO, "WEIGHT", "'s0,07;s1,9;s1,00;'=3 span(0,0)=7 span(1,0)=0");
    s.test(3, ZERO, "PLACE", "'g00,3;g09,4;'=2 ground(0,0)=3 ground(9,0)=4");
    s.test(3, ZERO, "LEVEL", "'l07;'=1 count(2)=7 'l00;'=1 count(2)=0");
    s.test(3, LEAST, "none", "roof=-1000");
    s.test(3, LEAST, "none any more", "'l1;'=1 roof=-1000 count(2)=1");
    s.test(3, LEAST, "one", "'l1;'=1");
  }

  private static void roof(Sentences s) {
    s.test(3, BECOME, "letters are no more", "'l1;'=1 count(7)=0");
    s.test(3, BECOME, "letters of an earlier text do not end a later one", "'l1;'=1 'l2'=-1002 count(2)=1");
    s.test(3, BECOME, "with a FAULT of kind 1 neither", "'l1x'=-1002 count(7)=0 roof=-1000");
    s.test(3, BECOME, "with a FAULT of kind 1 at the end neither", "'l1'=-1002 count(7)=0 letter(59) roof=-1000");
    s.test(3, BECOME, "with a FAULT of kind 2 neither", "'l28;'=-2000 count(7)=0 roof=-1000");
    s.test(3, BECOME, "the fewest statements", "'s0,0;'=1");
    s.test(3, BECOME, "the most statements", "'" + "l0;".repeat(32) + "'=32");
    s.test(3, BECOME, "nothing is counted with a FAULT of kind 1", "'x'=-1000 " + noRefusal());
    s.test(3, BECOME, "nothing is counted without letters", "roof=-1000 " + noRefusal());
    s.test(3, BECOME, "nothing is counted with a number out of range", "'l28;'=-2000 's6,0;'=-2000 " + noRefusal());
    s.test(3, BECOME, "nothing is counted without a BEARER", "'k0,0;'=-2000 " + noRefusal());
    s.test(3, BECOME, "nothing is counted without room",
        "'" + "bb1,0;".repeat(8) + "'=-2042 at(15) 'bb1,0;bb1,0;'=-2006 " + noRefusal());
  }

  private static String noRefusal() {
    StringBuilder script = new StringBuilder();
    for (int what = 11; what <= 16; what++) script.append(" count(").append(what).append(")=0");
    return script.toString();
  }
}
