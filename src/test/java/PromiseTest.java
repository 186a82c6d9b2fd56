/** Each promise by hand: ordinary inputs, the edges that the document names, and wrong inputs in their order. */
public final class PromiseTest {
  private static final String THREE = "bb10,3;bb10,3;bb10,3;s0,5;s1,5;l3;";
  private static final String KINDS = "bb9,2;bc9,2;bt9,2;bs9,2;bl9,2;bh9,2;l2;";
  private static int wrong = 0;
  private static int promise = 0;

  private static void due(String call, int got, int want) {
    if (got != want) {
      wrong++;
      System.out.println("promise " + promise + ": " + call + " answered " + got + ", due is " + want);
    }
  }

  private static int tell(EachBearsPillar x, String text) {
    for (int i = 0; i < text.length(); i++) x.letter(text.charAt(i));
    return x.roof();
  }

  private static EachBearsPillar told(String text) {
    EachBearsPillar x = new EachBearsPillar();
    tell(x, text);
    return x;
  }

  private static void row(EachBearsPillar x, int... loads) {
    for (int load : loads) x.row(load);
  }

  public static void main(String[] args) {
    int chosen = args.length > 0 ? Integer.parseInt(args[0]) : 0;
    for (promise = 1; promise <= 28; promise++) {
      if (chosen == 0 || chosen == promise) keep(promise);
    }
    if (wrong > 0) System.exit(1);
  }

  private static void keep(int number) {
    switch (number) {
      case 1: newObject(); break;
      case 2: letter(); break;
      case 3: roofForm(); roofSense(); roofComes(); break;
      case 4: bearer(); break;
      case 5: span(); break;
      case 6: ground(); break;
      case 7: level(); break;
      case 8: block(); break;
      case 9: at(); break;
      case 10: load(); break;
      case 11: holds(); break;
      case 12: sag(); break;
      case 13: levels(); break;
      case 14: blocks(); break;
      case 15: swap(); break;
      case 16: orders(); ordersToTheHalf(); break;
      case 17: needed(); break;
      case 18: more(); break;
      case 19: row(); break;
      case 20: slacked(); break;
      case 21: way(); break;
      case 22: reach(); break;
      case 23: lowest(); break;
      case 24: judge(); break;
      case 25: seeds(); break;
      case 26: image(); break;
      case 27: on(); break;
      default: count(); break;
    }
  }

  private static void newObject() {
    EachBearsPillar x = new EachBearsPillar();
    for (int what = 0; what <= 7; what++) due("count(" + what + ")", x.count(what), 0);
    for (int what = 11; what <= 16; what++) due("count(" + what + ")", x.count(what), 0);
    due("holds()", x.holds(), 1);
    due("on()", x.on(), -3);
    due("level(0)", x.level(0), 0);
    due("at(0)", x.at(0), 0);
    for (int s = 0; s < 6; s++) due("span", x.span(s, 0), 0);
    for (int p = 0; p < 16; p++) due("ground", x.ground(p, 0), 0);
    due("bearer(0, 0)", x.bearer(0, 0), -1);
  }

  private static void letter() {
    EachBearsPillar x = new EachBearsPillar();
    due("letter(0)", x.letter(0), 1);
    due("letter(255)", x.letter(255), 2);
    due("letter(256)", x.letter(256), -6);
    due("letter(-1)", x.letter(-1), -4);
    due("letter(min)", x.letter(Integer.MIN_VALUE), -4);
    due("letter(max)", x.letter(Integer.MAX_VALUE), -6);
    for (int i = 3; i <= 96; i++) due("letter " + i, x.letter('a'), i);
    due("letter 97", x.letter('a'), -6);
    due("letter(-1) when full", x.letter(-1), -4);
    due("letters", x.count(7), 96);
    due("refused -4", x.count(14), 3);
    due("refused -6", x.count(16), 3);
  }

  private static void roofForm() {
    String[] texts = {"", "x", ";", "b", "bb", "bb1", "bb12", "bb12,", "bb12,3", "bq1,0;", "bb,0;", "bb123,0;", "bb1;",
      "bb1,00;", "bb1,;", "s", "sx", "s0;", "s0,", "s0,;", "s0,123;", "s00,1;", "g", "g1;", "g123,0;", "g1,00;", "l;",
      "l1,", "l123;", "k0;", "k00,0;", "k0,00;", "l1;;", "l1;x", "l1;l2", "bb0,0;x", "s9,9;l9", "l1; l2;"};
    int[] places = {0, 0, 0, 1, 2, 3, 4, 5, 6, 1, 2, 4, 3, 5, 4, 1, 1, 2, 3, 3, 5, 2, 1, 2, 3, 4, 1, 2, 3, 2, 2, 4, 3, 3, 5, 6, 7, 3};
    for (int i = 0; i < texts.length; i++) {
      EachBearsPillar x = new EachBearsPillar();
      due("roof of \"" + texts[i] + "\"", tell(x, texts[i]), -1000 - places[i]);
      due("letters left", x.count(7), 0);
      for (int what = 11; what <= 16; what++) due("refused", x.count(what), 0);
    }
    EachBearsPillar full = new EachBearsPillar();
    StringBuilder text = new StringBuilder();
    for (int i = 0; i < 32; i++) text.append("l").append(i % 10).append(";");
    due("roof of 32 statements", tell(full, text.toString()), 32);
    due("level", full.count(2), 1);
    text.setLength(90);
    due("roof of 96 letters that lacks", tell(full, text + "bb12,3"), -1096);
    due("letter 255", full.letter(255), 1);
    due("roof", full.roof(), -1000);
  }

  private static void roofSense() {
    String[] texts = {"bb0,0;", "bb00,0;", "l1;bb0,0;", "s6,0;", "s9,99;", "g16,0;", "g99,0;", "l28;", "l99;", "k0,0;",
      "bb1,0;k1,0;", "k0,0;bb1,0;", "bb1,0;k0,3;k1,0;",
      "bb1,0;bb1,0;bb1,0;bb1,0;bb1,0;bb1,0;bb1,0;bb1,0;", "l28;s6,0;", "l3;s5,9;g15,9;l28;"};
    int[] places = {0, 0, 3, 0, 0, 0, 0, 0, 0, 0, 6, 0, 11, 42, 0, 14};
    for (int i = 0; i < texts.length; i++) {
      EachBearsPillar x = new EachBearsPillar();
      due("roof of \"" + texts[i] + "\"", tell(x, texts[i]), -2000 - places[i]);
      due("letters left", x.count(7), 0);
      due("bearers", x.count(0), 0);
      due("level", x.count(2), 0);
      due("weight", x.count(3), 0);
      for (int what = 11; what <= 16; what++) due("refused", x.count(what), 0);
    }
    EachBearsPillar x = new EachBearsPillar();
    x.at(14);
    due("third beyond place 15", tell(x, "bb1,0;bb1,0;bb1,0;"), -2012);
    due("two at 14 and 15", tell(x, "bb1,0;bb1,0;"), 2);
    due("one more", tell(x, "bb1,0;"), -2000);
    due("bearer told earlier", tell(x, "k1,9;"), 1);
    due("his block", x.bearer(1, 3), 9);
  }

  private static void roofComes() {
    EachBearsPillar x = new EachBearsPillar();
    due("roof", tell(x, "bb01,9;bh99,0;s5,99;s0,07;g15,9;g00,4;g1,2;l27;k0,9;k1,1;s0,8;"), 11);
    due("bearers", x.count(0), 2);
    due("kind", x.bearer(0, 0), 0);
    due("kind", x.bearer(1, 0), 5);
    due("strength", x.bearer(0, 1), 1);
    due("strength", x.bearer(1, 1), 99);
    due("height", x.bearer(0, 2), 9);
    due("block", x.bearer(0, 3), 9);
    due("block", x.bearer(1, 3), 1);
    due("top", x.bearer(0, 4), 22);
    due("span 0", x.span(0, 0), 8);
    due("span 5", x.span(5, 0), 99);
    due("ground 15", x.ground(15, 0), 9);
    due("ground 1", x.ground(1, 0), 2);
    due("level", x.count(2), 27);
    due("more come behind", tell(x, "bc5,5;"), 1);
    due("bearers", x.count(0), 3);
    due("block of a new one", x.bearer(2, 3), 0);
    due("the first is still there", x.bearer(0, 1), 1);
  }

  private static void bearer() {
    EachBearsPillar x = told(KINDS);
    int[] plain = {9, 4, 18, 9, 6, 18};
    int[] stooped = {4, 2, 8, 4, 1, 18};
    for (int k = 0; k < 6; k++) {
      due("kind", x.bearer(k, 0), k);
      due("strength", x.bearer(k, 1), 9);
      due("height", x.bearer(k, 2), 2);
      due("top", x.bearer(k, 4), 2);
      due("bears", x.bearer(k, 5), k == 3 ? 0 : 1);
      due("stoops", x.bearer(k, 6), 0);
      due("might " + k, x.bearer(k, 7), plain[k]);
    }
    x.level(1);
    for (int k = 0; k < 6; k++) {
      due("bears", x.bearer(k, 5), k == 3 ? 0 : 1);
      due("stoops", x.bearer(k, 6), k == 3 ? 0 : 1);
      due("might stooped " + k, x.bearer(k, 7), stooped[k]);
    }
    x.level(3);
    for (int k = 0; k < 6; k++) {
      due("bears not", x.bearer(k, 5), 0);
      due("stoops not", x.bearer(k, 6), 0);
      due("might too low " + k, x.bearer(k, 7), plain[k]);
    }
    x.block(1, 4);
    x.ground(3, 5);
    x.at(2);
    due("block", x.bearer(1, 3), 4);
    due("top with ground and block", x.bearer(1, 4), 11);
    due("lazy and weak", told("bl3,2;bl2,2;").bearer(1, 7), 0);
    due("bearer(6, 0)", x.bearer(6, 0), -1);
    due("bearer(-1, 0)", x.bearer(-1, 0), -1);
    due("bearer(6, 8)", x.bearer(6, 8), -1);
    due("bearer(0, 8)", x.bearer(0, 8), -2);
    due("bearer(0, -1)", x.bearer(0, -1), -2);
    due("refused -1", x.count(11), 3);
    due("refused -2", x.count(12), 2);
  }

  private static void span() {
    EachBearsPillar x = new EachBearsPillar();
    due("span(5, 99)", x.span(5, 99), 0);
    due("span(5, 0)", x.span(5, 0), 99);
    due("span(0, 7)", x.span(0, 7), 0);
    due("span(6, 0)", x.span(6, 0), -1);
    due("span(-1, -1)", x.span(-1, -1), -1);
    due("span(6, 100)", x.span(6, 100), -1);
    due("span(0, -1)", x.span(0, -1), -4);
    due("span(0, 100)", x.span(0, 100), -6);
    due("span(0, 8)", x.span(0, 8), 7);
    due("all weight", x.count(3), 8);
  }

  private static void ground() {
    EachBearsPillar x = told("bb5,1;");
    due("ground(0, 9)", x.ground(0, 9), 0);
    due("top", x.bearer(0, 4), 10);
    due("ground(15, 3)", x.ground(15, 3), 0);
    due("ground(15, 4)", x.ground(15, 4), 3);
    due("ground(16, 0)", x.ground(16, 0), -1);
    due("ground(-1, -1)", x.ground(-1, -1), -1);
    due("ground(16, 10)", x.ground(16, 10), -1);
    due("ground(0, -1)", x.ground(0, -1), -4);
    due("ground(0, 10)", x.ground(0, 10), -6);
    due("top", x.bearer(0, 4), 10);
  }

  private static void level() {
    EachBearsPillar x = told("bb5,1;");
    due("level(27)", x.level(27), 0);
    due("bears", x.bearer(0, 5), 0);
    due("level(28)", x.level(28), -6);
    due("level(-1)", x.level(-1), -4);
    due("level(1)", x.level(1), 27);
    due("bears", x.bearer(0, 5), 1);
    due("level(0)", x.level(0), 1);
  }

  private static void block() {
    EachBearsPillar x = told("bb5,1;bb5,1;");
    due("block(1, 9)", x.block(1, 9), 0);
    due("block(1, 8)", x.block(1, 8), 9);
    due("top", x.bearer(1, 4), 9);
    due("top of the other", x.bearer(0, 4), 1);
    due("block(2, 0)", x.block(2, 0), -1);
    due("block(-1, -1)", x.block(-1, -1), -1);
    due("block(2, 10)", x.block(2, 10), -1);
    due("block(0, -1)", x.block(0, -1), -4);
    due("block(0, 10)", x.block(0, 10), -6);
    due("block(1, 0)", x.block(1, 0), 8);
  }

  private static void at() {
    EachBearsPillar x = new EachBearsPillar();
    due("at(15) of nobody", x.at(15), 0);
    due("at(16)", x.at(16), -6);
    due("at(-1)", x.at(-1), -4);
    tell(x, "bb5,1;");
    due("at(15) of one", x.at(15), 15);
    due("at(14)", x.at(14), 15);
    tell(x, "bb5,1;");
    due("at(15) of two", x.at(15), -6);
    due("at(13)", x.at(13), 14);
    due("at(9)", x.at(9), 13);
    tell(x, "bb5,1;bb5,1;bb5,1;bb5,1;bb5,1;");
    due("at(10) of seven", x.at(10), -6);
    due("at(0)", x.at(0), 9);
    x.ground(6, 9);
    due("top of the last", x.bearer(6, 4), 10);
    due("at(1)", x.at(1), 0);
    due("top of the one ahead", x.bearer(5, 4), 10);
    due("top of the last", x.bearer(6, 4), 1);
  }

  private static void load() {
    EachBearsPillar x = told(THREE + "s2,9;");
    due("load(0)", x.load(0), 5);
    due("load(1)", x.load(1), 10);
    due("load(2) beside a span without a bearer", x.load(2), 5);
    due("load(3)", x.load(3), -1);
    due("load(-1)", x.load(-1), -1);
    x.block(0, 1);
    x.block(2, 1);
    x.level(4);
    due("load(0), he alone", x.load(0), 10);
    due("load(1), who is too low", x.load(1), 0);
    due("load(2), he alone", x.load(2), 10);
    x.block(2, 0);
    due("load(2), none", x.load(2), 0);
    EachBearsPillar sick = told("bb9,2;bs9,2;bb9,2;s0,3;s1,4;");
    due("beside a sick one", sick.load(0), 6);
    due("a sick one", sick.load(1), 0);
    due("beside a sick one", sick.load(2), 8);
  }

  private static void holds() {
    EachBearsPillar x = told(THREE);
    due("it holds", x.holds(), 1);
    x.span(0, 15);
    due("20 upon 20", x.holds(), 1);
    x.span(0, 16);
    due("21 upon 20", x.holds(), 0);
    x.span(0, 5);
    x.level(4);
    due("all fall", x.holds(), 0);
    x.span(0, 0);
    x.span(1, 0);
    due("nothing to fall", x.holds(), 1);
    x.span(2, 99);
    due("a span without bearers", x.holds(), 1);
    x.span(0, 5);
    x.block(1, 1);
    due("one bears all", x.holds(), 1);
    x.span(0, 11);
    due("22 upon one", x.holds(), 0);
  }

  private static void sag() {
    EachBearsPillar x = told(THREE);
    due("it holds", x.sag(), -9);
    x.span(1, 16);
    due("21 upon pillar 1", x.sag(), 1);
    x.span(1, 21);
    x.span(0, 0);
    due("21 upon pillars 1 and 2", x.sag(), 1);
    x.span(0, 21);
    due("21 upon pillar 0", x.sag(), 0);
    x.span(0, 0);
    x.level(4);
    due("span 1 falls", x.sag(), 11);
    x.span(0, 1);
    due("span 0 falls", x.sag(), 10);
    due("a load ahead of what falls", told("bb9,0;bb9,0;bb9,5;bb9,5;s0,5;s1,5;s2,30;l5;").sag(), 2);
  }

  private static void levels() {
    EachBearsPillar x = new EachBearsPillar();
    due("nobody", x.levels(), (1 << 28) - 1);
    tell(x, THREE);
    due("three", x.levels(), 15);
    due("level stays", x.count(2), 3);
    x.span(0, 6);
    due("they may not stoop", x.levels(), 8);
    x.span(0, 99);
    due("none", x.levels(), 0);
    EachBearsPillar y = told("bb9,9;bb9,9;s0,1;g0,9;g1,9;k0,9;k1,9;");
    due("up to 27", y.levels(), (1 << 28) - 1);
  }

  private static void blocks() {
    EachBearsPillar x = told(THREE);
    due("it holds", x.blocks(), 0);
    x.level(5);
    due("the middle one", x.blocks(), 2);
    x.span(0, 6);
    due("two", x.blocks(), 4);
    due("none is put", x.bearer(1, 3), 0);
    x.level(12);
    due("nine each", x.blocks(), 18);
    x.block(1, 1);
    due("one less", x.blocks(), 17);
    x.level(13);
    due("too high", x.blocks(), -9);
    x.level(5);
    x.span(0, 99);
    x.block(1, 0);
    due("too heavy", x.blocks(), -9);
    due("the first one by one", told("bb9,0;bb3,0;s0,9;l1;").blocks(), 1);
    due("the last one by one", told("bb3,0;bb9,0;s0,9;l1;").blocks(), 1);
    due("the cheaper of two", told("bb9,0;bb9,2;s0,9;l5;").blocks(), 3);
    due("two by one each", told("bb5,0;bb5,0;s0,9;l1;").blocks(), 2);
    due("one to the level, no more", told("bb5,0;bs9,9;s0,5;l3;").blocks(), 3);
    due("it holds but for what is not put under", told("bb5,9;bb5,0;bb5,9;s0,10;s1,10;").blocks(), -9);
    due("three would be needed", told("bb3,0;bb3,0;bb3,0;s0,6;s1,6;l1;").blocks(), -9);
    due("nobody", new EachBearsPillar().blocks(), 0);
  }

  private static void swap() {
    due("nobody", new EachBearsPillar().swap(), -9);
    due("one", told("bb9,0;").swap(), -9);
    due("it holds", told(THREE).swap(), 1);
    due("0 and 1", told("bb4,0;bb2,0;bb9,0;s0,4;s1,4;").swap(), 1);
    due("0 and 2", told("bb9,0;bb2,0;bb3,0;s0,2;s1,2;").swap(), 1);
    due("1 and 2", told("bb3,0;bb2,0;bb9,0;s0,4;s1,4;").swap(), 12);
    due("none", told("bb1,0;bb1,0;s0,9;").swap(), -9);
    due("blocks go with them", told("bb10,1;bb9,0;bb9,0;k0,1;s0,5;s1,5;l2;").swap(), 1);
    due("ground does not", told("bb9,0;bb1,0;bb1,0;g1,1;s0,5;s1,4;l1;").swap(), 1);
    EachBearsPillar x = told("bb3,0;bb2,0;bb9,0;s0,4;s1,4;");
    x.swap();
    due("they stay", x.bearer(1, 1), 2);
  }

  private static void orders() {
    EachBearsPillar x = new EachBearsPillar();
    due("nobody", x.orders(-1), 1);
    due("orders(0) of nobody", x.orders(0), -1);
    due("orders(-2)", x.orders(-2), -1);
    due("refused -1", x.count(11), 2);
    tell(x, "bb10,0;bb4,0;bb10,0;s0,5;s1,5;");
    due("orders", x.orders(-1), 4);
    due("under 0", x.orders(0), 0);
    due("under 1", x.orders(1), 2);
    due("under 2", x.orders(2), 1);
    due("orders(3)", x.orders(3), -1);
    x.span(0, 99);
    due("none", x.orders(-1), 0);
    due("none under 0", x.orders(0), -9);
    EachBearsPillar all = told("bb9,0;bc9,0;bt9,0;bs9,0;bl9,0;bh9,0;bb9,0;");
    due("all orders", all.orders(-1), 5040);
    due("under 6", all.orders(6), 6);
    all.at(9);
    tell(all, "s0,1;s1,1;s2,1;s3,1;s4,1;s5,1;");
    due("seven with little weight", all.orders(-1), 5040);
    all.level(1);
    all.block(2, 2);
    due("only one bears", all.orders(-1), 0);
    EachBearsPillar tall = told("bb9,0;bb9,1;bb9,0;k2,1;s0,1;s1,1;l1;");
    due("never the low one alone", tall.orders(-1), 6);
    tell(tall, "bb9,0;s2,1;");
    due("two low ones never side by side", tall.orders(-1), 12);
    due("under 0", tall.orders(0), 0);
    due("under 1", tall.orders(1), 1);
    due("under 2", tall.orders(2), 2);
    due("under 3", tall.orders(3), 3);
    tell(tall, "g3,1;");
    due("a low one can stand upon ground", tall.orders(-1), 16);
  }

  private static void ordersToTheHalf() {
    due("one alone bears 10 upon 10", told("bb5,0;bb5,1;s0,5;l1;").orders(-1), 2);
    due("one alone bears not 12", told("bb5,0;bb5,1;s0,6;l1;").orders(-1), 0);
    due("both bear 8", told("bb5,0;bb4,0;s0,8;").orders(-1), 2);
    due("one bears not 9", told("bb5,0;bb4,0;s0,9;").orders(-1), 0);
    due("the middle bears 10", told("bb5,0;bb5,0;bb5,0;s0,5;s1,5;").orders(-1), 6);
    due("the middle bears not 11", told("bb5,0;bb5,0;bb5,0;s0,5;s1,6;").orders(-1), 0);
    due("one without might bears all the same", told("bb9,0;bl3,0;s0,1;").orders(-1), 0);
    EachBearsPillar x = told("bb9,0;bb9,0;bb8,1;bb9,1;s0,5;s1,5;l1;");
    int[] first = {0, 2, 3, 1};
    for (int p = 0; p < 4; p++) due("under " + p, x.orders(p), first[p]);
  }

  private static void needed() {
    due("nobody", new EachBearsPillar().needed(), 0);
    EachBearsPillar x = told(THREE);
    due("none is", x.needed(), 0);
    x.block(1, 1);
    due("0 and 2", x.needed(), 5);
    x.span(0, 99);
    due("it does not hold", x.needed(), 0);
    due("beside a sick one", told("bb9,0;bs9,0;bb9,0;s0,1;s1,1;").needed(), 5);
    due("the middle one", told("bb9,0;bb9,0;bb9,0;k1,1;s0,1;s1,1;l1;").needed(), 2);
  }

  private static void more() {
    EachBearsPillar x = told(THREE);
    due("more(0)", x.more(0), 10);
    due("more(1)", x.more(1), 10);
    due("more(2)", x.more(2), 99);
    due("more(5)", x.more(5), 99);
    due("more(6)", x.more(6), -1);
    due("more(-1)", x.more(-1), -1);
    x.span(0, 15);
    due("nothing more", x.more(0), 0);
    due("the weight stays", x.span(0, 16), 15);
    due("it does not hold", x.more(0), -9);
    due("it does not hold", x.more(5), -9);
    due("none bears", told("bb9,0;bb9,0;l1;").more(0), 0);
    EachBearsPillar y = told("bh99,0;bh99,0;s0,50;");
    due("99 more upon 50", y.more(0), 99);
    due("one more", told("bb5,0;bb5,0;s0,9;").more(0), 1);
    due("one of them bears", told("bh20,0;bs99,0;s0,10;").more(0), 30);
  }

  private static void row() {
    EachBearsPillar x = new EachBearsPillar();
    due("row(0)", x.row(0), 1);
    due("row(400)", x.row(400), 2);
    due("row(401)", x.row(401), -6);
    due("row(-1)", x.row(-1), -4);
    for (int i = 3; i <= 7; i++) due("row " + i, x.row(1), i);
    due("row 8", x.row(1), -6);
    due("row(-1) when full", x.row(-1), -4);
    due("in the row", x.count(6), 7);
  }

  private static void slacked() {
    EachBearsPillar x = new EachBearsPillar();
    due("nobody", x.slacked(), 128);
    tell(x, THREE);
    due("no row", x.slacked(), -3);
    row(x, 10, 0, 10);
    due("bearer 1", x.slacked(), 2);
    due("the row stays", x.count(6), 3);
    due("bearer 1 again", x.slacked(), 2);
    x.row(0);
    due("too long", x.slacked(), -3);
    x.judge();
    row(x, 5, 10, 5);
    due("as it is", x.slacked(), 128);
    x.judge();
    row(x, 0, 15, 5);
    due("bearer 0", x.slacked(), 1);
    x.judge();
    row(x, 5, 15, 0);
    due("bearer 2", x.slacked(), 4);
    x.judge();
    row(x, 0, 20, 0);
    due("two of them", x.slacked(), 0);
    EachBearsPillar y = told("bs9,0;bb9,0;s0,3;");
    row(y, 0, 6);
    due("a sick one leaves it as it is", y.slacked(), 129);
    y.judge();
    row(y, 0, 0);
    due("beside a sick one", y.slacked(), 2);
    due("refused -3", x.count(13), 2);
  }

  /** Two upon ground of 5 but for a pit at places 4 and 5, at a level to which they just reach. */
  private static EachBearsPillar pit() {
    EachBearsPillar x = told("bb10,3;bb10,3;s0,5;l8;");
    for (int place = 0; place < 16; place++) x.ground(place, place == 4 || place == 5 ? 0 : 5);
    return x;
  }

  private static void way() {
    EachBearsPillar x = pit();
    due("way(0)", x.way(0), 0);
    due("way(3)", x.way(3), 3);
    due("way(4) down", x.way(4), 9);
    due("way(6) through", x.way(6), 11);
    due("way(14)", x.way(14), 19);
    due("way(15)", x.way(15), -6);
    due("way(16)", x.way(16), -6);
    due("way(-1)", x.way(-1), -4);
    x.at(9);
    due("way(5) back", x.way(5), 4);
    due("way(0) back", x.way(0), 14);
    due("at stays", x.count(1), 9);
    due("level stays", x.count(2), 8);
    x.at(0);
    x.span(0, 6);
    due("they go down before one stands alone", x.way(4), 9);
    x.span(0, 11);
    due("one alone can't bear it", x.way(3), -9);
    due("way(2)", x.way(2), 2);
    x.level(9);
    due("it does not hold", x.way(0), -9);
    EachBearsPillar nobody = new EachBearsPillar();
    due("nobody to 15", nobody.way(15), 15);
    due("way(4) up", hill().way(4), 9);
    due("way(3) below", hill().way(3), 3);
  }

  /** One who can't stoop there, with a helper ahead of him, before ground of 5 at place 4. */
  private static EachBearsPillar hill() {
    return told("bb10,3;bh10,3;s0,11;l3;g4,5;g5,5;");
  }

  private static void reach() {
    EachBearsPillar x = pit();
    due("reach(0)", x.reach(0), 1);
    due("reach(3)", x.reach(3), 15);
    due("reach(8)", x.reach(8), 15);
    due("reach(9)", x.reach(9), 31);
    due("reach(40)", x.reach(40), 32767);
    due("reach(41)", x.reach(41), -6);
    due("reach(-1)", x.reach(-1), -4);
    x.at(9);
    due("reach(2) about 9", x.reach(2), 0xF80);
    x.level(9);
    due("it does not hold", x.reach(40), 0);
    due("nobody", new EachBearsPillar().reach(40), 65535);
  }

  private static void lowest() {
    EachBearsPillar x = pit();
    due("lowest(0, 0)", x.lowest(0, 0), 8);
    due("lowest(0, 3)", x.lowest(0, 3), 5);
    due("lowest(0, 40)", x.lowest(0, 40), 0);
    due("lowest(3, 3)", x.lowest(3, 3), 8);
    due("lowest(4, 8)", x.lowest(4, 8), -9);
    due("lowest(4, 9)", x.lowest(4, 9), 3);
    due("lowest(4, 10)", x.lowest(4, 10), 2);
    due("lowest(15, 40)", x.lowest(15, 40), -6);
    due("lowest(16, -1)", x.lowest(16, -1), -4);
    due("lowest(-1, 41)", x.lowest(-1, 41), -4);
    due("lowest(0, -1)", x.lowest(0, -1), -4);
    due("lowest(0, 41)", x.lowest(0, 41), -6);
    due("lowest(14, 40)", x.lowest(14, 40), 0);
    due("lowest(4, 9) up", hill().lowest(4, 9), 8);
    due("lowest(4, 8) up", hill().lowest(4, 8), -9);
    x.level(9);
    due("it does not hold", x.lowest(0, 40), -9);
  }

  private static void judge() {
    EachBearsPillar x = told(THREE);
    int[][] rows = {{5, 10, 5}, {5, 11, 6}, {5, 10, 6}, {6}, {}, {5, 10}, {5, 9}, {5, 10, 5, 0}, {5, 10, 5, 0, 0}, {5, 10, 4, 0}};
    int[] answers = {-9, 1, 2, 0, 0, 2, 1, 3, 3, 2};
    for (int i = 0; i < rows.length; i++) {
      row(x, rows[i]);
      due("judge of row " + i, x.judge(), answers[i]);
      due("the row has none", x.count(6), 0);
    }
    EachBearsPillar nobody = new EachBearsPillar();
    due("nobody", nobody.judge(), -9);
    row(nobody, 0);
    due("nobody, one too long", nobody.judge(), 0);
  }

  /** The hail again, in wider numbers. */
  private static int[] hail(int n, int z) {
    int[] weights = new int[6 * n];
    long seed = z;
    for (int i = 0; i < weights.length; i++) {
      seed = (int) (seed * 1664525L + 1013904223L);
      weights[i] = (int) ((seed & Integer.MAX_VALUE) / 256 % 100);
    }
    return weights;
  }

  private static void seeds() {
    EachBearsPillar x = told("bb40,0;bb40,0;bb40,0;s0,3;");
    for (int z : new int[] {0, 1, -1, 7, 12345, Integer.MIN_VALUE, Integer.MAX_VALUE}) {
      for (int n = 1; n <= 30; n++) {
        int[] w = hail(n, z);
        int held = 0;
        for (int i = 0; i < n; i++) {
          held += w[6 * i] <= 80 && w[6 * i] + w[6 * i + 1] <= 80 && w[6 * i + 1] <= 80 ? 1 : 0;
        }
        due("seeds(" + n + ", " + z + ")", x.seeds(n, z), held);
      }
    }
    due("the first draw with seed 0", hail(1, 0)[0], 1013904223 / 256 % 100);
    due("the weight stays", x.count(3), 3);
    x.level(1);
    due("all fall", x.seeds(30, 7), 0);
    x.level(0);
    due("seeds(0, 0)", x.seeds(0, 0), -4);
    due("seeds(-1, 0)", x.seeds(-1, 0), -4);
    due("seeds(31, 0)", x.seeds(31, 0), -6);
    due("nobody", new EachBearsPillar().seeds(30, 5), 30);
  }

  private static void image() {
    EachBearsPillar x = new EachBearsPillar();
    due("image() of nobody", x.image(), 0);
    tell(x, THREE);
    due("image()", x.image(), 3);
    tell(x, "bb9,9;k0,9;s5,1;g3,3;l9;");
    due("image() again", x.image(), 4);
    due("nothing changes", x.count(0), 4);
    x.level(0);
    x.on();
    due("the later image", x.count(2), 9);
  }

  private static void on() {
    EachBearsPillar x = new EachBearsPillar();
    due("no image", x.on(), -3);
    tell(x, THREE + "k1,2;g9,9;");
    x.at(2);
    x.letter('l');
    x.row(5);
    x.image();
    tell(x, "0;bb9,9;k0,9;k1,9;s0,1;s5,1;g9,3;");
    x.at(5);
    x.row(6);
    x.letter('l');
    x.letter('l');
    x.load(9);
    due("on()", x.on(), 3);
    due("bearers", x.count(0), 3);
    due("at", x.count(1), 2);
    due("level", x.count(2), 3);
    due("weight", x.count(3), 10);
    due("block", x.bearer(0, 3), 0);
    due("block", x.bearer(1, 3), 2);
    due("ground", x.ground(9, 1), 9);
    due("span 0", x.span(0, 2), 5);
    due("span 5", x.span(5, 2), 0);
    due("the row is not in it", x.count(6), 2);
    due("letters are not in it", x.count(7), 2);
    due("refusals are not in it", x.count(11), 1);
    due("on() again", x.on(), 3);
    due("span 0 again", x.span(0, 2), 5);
    x.roof();
    tell(x, "bb7,7;");
    due("a new one has no block", x.bearer(3, 3), 0);
    due("a new one's strength", x.bearer(3, 1), 7);
  }

  private static void count() {
    EachBearsPillar x = told(THREE + "s2,9;bs5,5;");
    x.at(4);
    x.letter('b');
    x.row(1);
    x.row(2);
    x.level(1);
    due("bearers", x.count(0), 4);
    due("at", x.count(1), 4);
    due("level", x.count(2), 1);
    due("all weight", x.count(3), 19);
    due("all loads", x.count(4), 38);
    due("how many bear", x.count(5), 3);
    x.level(4);
    due("how many bear, too high", x.count(5), 0);
    due("all loads, too high", x.count(4), 0);
    x.level(1);
    due("row", x.count(6), 2);
    due("letters", x.count(7), 1);
    int[] others = {-1, 8, 9, 10, 17, Integer.MIN_VALUE, Integer.MAX_VALUE};
    for (int what : others) due("count(" + what + ")", x.count(what), -9);
    x.bearer(9, 0);
    x.bearer(0, 9);
    x.bearer(0, 9);
    for (int i = 0; i < 3; i++) x.on();
    for (int i = 0; i < 4; i++) x.level(-1);
    for (int i = 0; i < 5; i++) x.level(28);
    int[] refused = {1, 2, 3, 4, 0, 5};
    for (int i = 0; i < 6; i++) due("refused -" + (i + 1), x.count(11 + i), refused[i]);
    due("level", x.count(2), 1);
    due("weight of spans without bearers", sixSpans().count(3), 21);
  }

  private static EachBearsPillar sixSpans() {
    EachBearsPillar x = new EachBearsPillar();
    for (int s = 0; s < 6; s++) x.span(s, s + 1);
    return x;
  }
}
