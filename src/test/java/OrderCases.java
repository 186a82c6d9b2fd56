/** Promise 16: ORDERS in which all BEARERS can stand. */
final class OrderCases {
  private static final String ORDERS = "ORDERS: in how many orders all BEARERS can stand under the PILLARS so that it HOLDS; who stands"
      + " under a told PILLAR in the first of them (by who is under PILLAR 0, then 1, ..); -9.";
  private static final String FACE = "ORDERS (pillar -1); who stands there; -9. -1.";
  private static final String SEVEN = "'bb9,0;bc9,0;bt9,0;bs9,0;bl9,0;bh9,0;bb9,0;'=7";

  private OrderCases() {}

  static void tell(Sentences s) {
    howMany(s);
    howManyJust(s);
    first(s);
    refusals(s);
  }

  private static void howMany(Sentences s) {
    s.test(16, ORDERS, "of nobody there is one", "orders(-1)=1");
    s.test(16, ORDERS, "of one there is one", "'bb9,0;'=1 orders(-1)=1 orders(0)=0");
    s.test(16, ORDERS, "of one who does not BEAR", "'bb9,0;l9;s0,9;'=3 orders(-1)=1 orders(0)=0");
    s.test(16, ORDERS, "of seven, all", SEVEN + " orders(-1)=5040");
    s.test(16, ORDERS, "of two, all", "'bb9,0;bb9,0;s0,18;'=3 orders(-1)=2");
    s.test(16, ORDERS, "of two, none", "'bb9,0;bb9,0;s0,19;'=3 orders(-1)=0");
    s.test(16, ORDERS, "of seven, none", SEVEN + " 's5,99;s4,99;s3,99;s2,99;'=4 orders(-1)=0");
    s.test(16, ORDERS, "those who are alike are counted each", "'bb9,0;bb9,0;bb9,0;'=3 orders(-1)=6");
    s.test(16, ORDERS, "one alone, it is not as they stand",
        "'bb9,1;bb9,0;g0,1;s0,9;l1;'=5 holds=0 orders(-1)=1 orders(0)=1 orders(1)=0");
    s.test(16, ORDERS, "one alone, it is as they stand",
        "'bb9,0;bb9,1;g0,1;s0,9;l1;'=5 holds=1 orders(-1)=1 orders(0)=0 orders(1)=1");
  }

  private static void howManyJust(Sentences s) {
    s.test(16, ORDERS, "LOAD is twice MIGHT under the middle one", "'bb9,0;bb9,0;bb9,0;s0,9;s1,9;'=5 orders(-1)=6");
    s.test(16, ORDERS, "LOAD is a half more under the middle one", "'bb9,0;bb9,0;bb9,0;s0,9;s1,10;'=5 orders(-1)=0");
    s.test(16, ORDERS, "LOAD is twice MIGHT under the last one", "'bh99,0;bb9,0;s0,18;'=3 orders(-1)=2");
    s.test(16, ORDERS, "LOAD is a half more under the last one", "'bh99,0;bb9,0;s0,19;'=3 orders(-1)=0");
    s.test(16, ORDERS, "one of MIGHT 0 BEARS all the same", "'bb9,0;bl3,0;s0,1;'=3 orders(-1)=0");
    s.test(16, ORDERS, "LOAD is twice MIGHT under one who BEARS alone", "'bb9,1;bb9,0;s0,9;l1;'=4 orders(-1)=2");
    s.test(16, ORDERS, "LOAD is a half too much under one who BEARS alone", "'bb9,1;bb9,0;s0,10;l1;'=4 orders(-1)=0");
    s.test(16, ORDERS, "SPANS with WEIGHT 0 do not fall", "'bb9,0;bb9,0;l1;'=3 orders(-1)=2");
    s.test(16, ORDERS, "SPANS with WEIGHT 1 fall", "'bb9,0;bb9,0;s0,1;l1;'=4 orders(-1)=0");
    s.test(16, ORDERS, "a SICK one between two",
        "'bb9,0;bs9,0;bb9,0;s0,9;s1,9;'=5 orders(-1)=2 orders(0)=0 orders(1)=1 orders(2)=2");
    s.test(16, ORDERS, "BLOCKS go with them", "'bb9,0;bb9,0;k0,1;g1,1;s0,9;l1;'=6 orders(-1)=1 orders(0)=0");
    s.test(16, ORDERS, "GROUND stays", "'bb9,0;bb9,0;g1,1;s0,9;l1;'=5 orders(-1)=2 at(1) orders(-1)=2 at(2) orders(-1)=0");
  }

  private static void first(Sentences s) {
    s.test(16, ORDERS, "as they stand", SEVEN + " orders(0)=0 orders(3)=3 orders(6)=6");
    s.test(16, ORDERS, "the least under PILLAR 0",
        "'bb1,0;bb9,0;bb9,0;s0,18;'=4 orders(-1)=2 orders(0)=1 orders(1)=2 orders(2)=0");
    s.test(16, ORDERS, "then under PILLAR 1",
        "'bb9,0;bb1,0;bb9,0;s0,18;'=4 orders(-1)=2 orders(0)=0 orders(1)=2 orders(2)=1");
    s.test(16, ORDERS, "then under PILLAR 2",
        "'bb9,0;bb9,0;bb1,0;bb9,0;s1,18;'=5 orders(0)=0 orders(1)=1 orders(2)=3 orders(3)=2");
    s.test(16, ORDERS, "the last PILLAR of seven",
        "'" + "bb9,0;".repeat(5) + "bb9,0;bb5,0;s5,9;'=8 orders(4)=4 orders(5)=5 orders(6)=6 span(5,18) orders(0)=0 orders(4)=6 orders(5)=4 orders(6)=5");
    s.test(16, ORDERS, "the one ahead does not BEAR just where he stands, so the next must",
        "'bb1,0;bb6,0;bs1,0;bb99,0;s0,3;s1,4;l1;g1,1;g2,1;g3,1;'=10 orders(0)=0 orders(1)=1 orders(2)=3 orders(3)=2");
    s.test(16, ORDERS, "none, each PILLAR", "'bb9,0;bb9,0;s0,19;'=3 orders(0)=-9 orders(1)=-9");
    s.test(16, FACE, "none, the first and the last of seven",
        SEVEN + " 's5,99;s4,99;s3,99;s2,99;'=4 orders(0)=-9 orders(6)=-9");
    s.test(16, FACE, "how many, there is none", "'bb9,0;bb9,0;s0,19;'=3 orders(-1)=0");
    s.test(16, FACE, "they stay where they are", "'bb1,0;bb9,0;bb9,0;s0,18;'=4 orders(0)=1 bearer(0,1)=1 holds=0");
  }

  private static void refusals(Sentences s) {
    s.test(16, FACE, "nobody stands under PILLAR 0", "orders(0)=-1");
    s.test(16, FACE, "below -1", SEVEN + " orders(-2)=-1 orders(MIN)=-1");
    s.test(16, FACE, "behind the last PILLAR", "'bb9,0;bb9,0;'=2 orders(1)=1 orders(2)=-1");
    s.test(16, FACE, "behind the last PILLAR of seven", SEVEN + " orders(7)=-1 orders(MAX)=-1");
    s.test(16, FACE, "no such PILLAR, and there is no order",
        "'bb9,0;bb9,0;s0,19;'=3 orders(2)=-1 orders(-2)=-1 count(11)=2");
    s.test(16, FACE, "-1 is a PILLAR to ask of, -9 no REFUSAL",
        "'bb9,0;bb9,0;s0,19;'=3 orders(-1)=0 orders(0)=-9 count(11)=0");
  }
}
