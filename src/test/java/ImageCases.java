/** Promises 26 and 27: THE IMAGE, and ON from it. */
final class ImageCases {
  private static final String IMAGE =
      "THE IMAGE: all that is told (but the ROW, letters, REFUSALS); ON from it all is as then.";
  private static final String TAKEN = "THE IMAGE is taken: how many BEARERS.";
  private static final String ON = "ON from it: how many BEARERS. -3 there is none.";
  private static final String SEVEN = "'" + "bb9,0;".repeat(7) + "'=7";
  private static final String TOLD = "at(2) 'bb9,1;bc8,2;s0,5;s5,6;g3,4;l3;k1,7;'=7";
  private static final String AS_THEN = " count(0)=2 count(1)=2 count(2)=3 bearer(0,0)=0 bearer(0,1)=9 bearer(0,2)=1 bearer(0,3)=0"
      + " bearer(1,0)=1 bearer(1,1)=8 bearer(1,2)=2 bearer(1,3)=7 bearer(1,4)=13 span(0,5)=5 span(5,6)=6 ground(3,4)=4 ground(2,0)=0";

  private ImageCases() {}

  static void tell(Sentences s) {
    taken(s);
    on(s);
    each(s);
    notInIt(s);
  }

  private static void taken(Sentences s) {
    s.test(26, TAKEN, "nobody", "image=0");
    s.test(26, TAKEN, "one", "'bb9,0;'=1 image=1");
    s.test(26, TAKEN, "seven", SEVEN + " image=7");
    s.test(26, TAKEN, "a second one instead of the first", "'bb9,0;'=1 image=1 'bb9,0;'=1 image=2 'bb9,0;'=1 on=2");
    s.test(26, TAKEN, "it does not HOLD", "'bb9,0;bb9,0;s0,19;'=3 image=2");
    s.unchanged(26, TAKEN, "nothing changes", TOLD + " row(5) letter(108) image", "image=2");
  }

  private static void on(Sentences s) {
    s.test(27, ON, "there is none", "on=-3 count(13)=1");
    s.test(27, ON, "there is none, seven BEARERS", SEVEN + " on=-3 count(0)=7");
    s.test(27, ON, "there is none, then one", "on=-3 image=0 on=0 count(13)=1");
    s.test(27, ON, "from nobody", "image 'bb9,0;'=1 on=0 count(0)=0 bearer(0,0)=-1 load(0)=-1");
    s.test(27, ON, "from seven", SEVEN + " image on=7 count(0)=7");
    s.test(27, ON, "twice", TOLD + " image on=2 on=2" + AS_THEN);
    s.test(27, ON, "again behind other things told", TOLD + " image level(9) on=2 level(8) 'bb1,1;k0,9;'=2 on=2" + AS_THEN);
  }

  private static void each(Sentences s) {
    s.test(27, IMAGE, "nothing was told since", TOLD + " image on=2" + AS_THEN);
    s.test(27, IMAGE, "BEARERS came", TOLD + " image 'bh1,1;bs2,2;'=2 on=2" + AS_THEN + " bearer(2,0)=-1");
    s.test(27, IMAGE, "a SPAN got another WEIGHT", TOLD + " image span(0,9) span(5,9) on=2" + AS_THEN);
    s.test(27, IMAGE, "GROUND got another HEIGHT", TOLD + " image ground(2,9) ground(3,9) on=2" + AS_THEN);
    s.test(27, IMAGE, "another LEVEL", TOLD + " image level(27) on=2" + AS_THEN);
    s.test(27, IMAGE, "another BLOCK", TOLD + " image block(0,9) block(1,0) on=2" + AS_THEN);
    s.test(27, IMAGE, "another AT", TOLD + " image at(14) on=2" + AS_THEN);
    s.test(27, IMAGE, "a whole ROOF more", TOLD + " image 'bt5,5;s0,8;s5,8;g2,8;g3,8;l8;k0,8;k1,8;'=8 on=2" + AS_THEN);
    s.test(27, IMAGE, "a BEARER who comes anew has no BLOCK", TOLD + " image 'bt5,5;k2,9;'=2 on=2 'bl6,6;'=1"
        + " bearer(2,0)=4 bearer(2,1)=6 bearer(2,2)=6 bearer(2,3)=0");
    String asks = " load(2) sag levels blocks swap orders(-1) orders(2) needed more(0) more(1) way(3) reach(40) seeds(9,9) slacked";
    s.unchanged(27, IMAGE, "those who came and are no more leave nothing", "'bb9,0;bb9,0;s0,5;s1,99;'=4 row(5) row(5) image",
        "'bb1,0;bb1,0;'=2" + asks + " on=2");
    s.unchanged(27, IMAGE, "those who came and are no more stand in no order", "'bb9,0;bb9,0;s0,5;'=3 image",
        "'bb9,0;bb9,0;'=2 orders(-1)=24" + asks + " on=2");
    s.unchanged(27, IMAGE, "those who came and are no more leave no order", "'bb9,0;bb9,0;s0,19;'=3 image",
        "span(0,0) 'bb9,0;bb9,0;'=2 orders(-1)=24" + asks + " on=2");
    s.unchanged(27, IMAGE, "those who came and are no more leave nobody", "image",
        "'" + "bb9,9;".repeat(7) + "l9;s0,9;s5,9;'=10" + asks + " on=0");
    s.test(26, IMAGE, "what is told behind ON is not in it",
        TOLD + " image on=2 level(9) span(0,1) block(0,3) ground(3,0) on=2" + AS_THEN);
  }

  private static void notInIt(Sentences s) {
    s.test(27, IMAGE, "the ROW is not", "row(1) image row(2) row(3) on=0 count(6)=3");
    s.test(27, IMAGE, "the ROW is not, its numbers", "'bb9,0;bb9,0;s0,5;'=3 row(5) image judge row(5) row(5) on=2 judge=-9");
    s.test(27, IMAGE, "letters are not", "letter(108) image letter(49) letter(59) on=0 count(7)=3 roof=1 count(2)=1");
    s.test(27, IMAGE, "letters are not, they are no more", "letter(108) image roof=-1001 on=0 count(7)=0");
    s.test(27, IMAGE, "REFUSALS are not", "level(28) image level(28) level(-1) on=0 count(16)=2 count(14)=1");
    s.test(27, IMAGE, "the image itself is not", "image 'bb9,0;'=1 on=0 on=0");
  }
}
