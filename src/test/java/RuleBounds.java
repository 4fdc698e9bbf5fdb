/** Boundary cases of SIGNS and RULES: promises 16 to 20. */
public final class RuleBounds {
  private static final int NO = Bounds.NO, BAD = Bounds.BAD;
  private static final long LEAST = Bounds.LEAST;
  private static final String CALM = "s10,0,1,0,0,0;";
  private static final String SUCH = "BAD: a number is none that is told (HARBOURS, SORTS, STORMS: such as there are).";

  private static void due(String call, long got, long want) { Bounds.due(call, got, want); }

  private static void test(int promise, String quote, String edge, Bounds.Body body) { Bounds.test(promise, quote, edge, body); }

  private static void sign() {
    test(16, "the GLASS tells V (0 to 9)", "-1 and 10", () -> {
      StormHarbours x = new StormHarbours();
      due("-1", x.sign(-1), BAD);
      due("10", x.sign(10), BAD);
      for (int far : Bounds.FAR) due("sign(" + far + ")", x.sign(far), BAD);
      due("the HOUR stays", x.now(0), 0);
    });
    test(16, "the GLASS tells V (0 to 9)", "0 and 9", () -> {
      StormHarbours x = Bounds.laid("h1,1,1,0;b1,1,1,1,1;s5,0,1,0,0,0;s5,0,1,0,0,0;g1,0,9;");
      due("9", x.sign(9), 2);
      due("0", x.sign(0), 2);
    });
    test(16, "STORMS that tell another one are no more THOUGHT of", "all of four stay, all but one go", () -> {
      StormHarbours x = Bounds.laid(Bounds.many(1, 1, 1, 4) + "g0,1,1;g1,1,1;g2,1,1;g0,2,2;g1,2,2;g0,3,3;");
      due("none goes", x.sign(0), 15);
      due("one goes", x.sign(1), 7);
      due("one more", x.sign(2), 3);
      due("one is left", x.sign(3), 1);
      due("and stays", x.sign(0), 1);
    });
    test(16, "are no more THOUGHT of", "one that is gone does not come again", () -> {
      StormHarbours x = Bounds.laid("h1,1,1,0;b1,1,1,1,1;s5,0,1,0,0,0;s5,0,1,0,0,0;g0,0,4;g1,1,4;");
      due("STORM 0", x.sign(4), 1);
      due("what STORM 1 tells", x.sign(4), NO);
      due("what STORM 0 tells", x.sign(0), 1);
    });
    test(16, "(NO, if none would stay, or it is 24)", "none would stay", () -> {
      StormHarbours x = Bounds.laid("h1,1,1,0;b1,1,1,1,1;s5,0,1,0,0,0;s5,0,1,0,0,0;g0,0,4;");
      due("none tells 5", x.sign(5), NO);
      due("the HOUR stays", x.now(0), 0);
      due("THOUGHT stays", x.now(1), 3);
      due("then STORM 0", x.sign(4), 1);
    });
    test(16, "(NO, if none would stay, or it is 24)", "one of 0 tenths stays", () -> {
      StormHarbours x = Bounds.laid("h1,1,1,0;b1,1,1,1,1;s0,0,1,0,0,0;" + CALM + "g0,0,4;");
      due("of 0 tenths", x.sign(4), 1);
      due("THOUGHT", x.now(1), 1);
      due("mean", x.mean(), 0);
    });
    test(16, "the next HOUR (NO, if none would stay, or it is 24)", "the 24th sign, the 25th", () -> {
      StormHarbours x = Bounds.laid("h1,1,1,0;b1,1,1,1,1;" + CALM + "g0,22,7;g0,23,8;");
      for (int t = 0; t < 22; t++) due("at " + t, x.sign(0), 1);
      due("at 22", x.sign(7), 1);
      due("HOUR", x.now(0), 23);
      due("not at 23", x.sign(7), NO);
      due("at 23", x.sign(8), 1);
      due("HOUR", x.now(0), 24);
      for (int v = 0; v <= 9; v++) due("at 24", x.sign(v), NO);
      due("HOUR", x.now(0), 24);
      due("THOUGHT", x.now(1), 1);
    });
    test(16, "Of several the first", "BAD ahead of NO", () -> {
      StormHarbours x = new StormHarbours();
      for (int t = 0; t < 24; t++) x.sign(0);
      due("at 24", x.sign(10), BAD);
      due("at 24", x.sign(-1), BAD);
      due("at 24", x.sign(9), NO);
    });
  }

  private static void now() {
    test(17, "The HOUR (what = 0), THOUGHT (1), X (2), Y (3). BAD.", "what of -1 and 4", () -> {
      StormHarbours x = new StormHarbours();
      due("-1", x.now(-1), BAD);
      due("4", x.now(4), BAD);
      for (int far : Bounds.FAR) due("what " + far, x.now(far), BAD);
    });
    test(17, "The HOUR (what = 0), THOUGHT (1), X (2), Y (3).", "the least and the greatest of each", () -> {
      StormHarbours x = Bounds.laid(Bounds.many(1, 1, 1, 4));
      due("HOUR", x.now(0), 0);
      due("THOUGHT", x.now(1), 15);
      for (int t = 0; t < 24; t++) x.sign(0);
      due("HOUR", x.now(0), 24);
      x.set(0, 0);
      x.set(1, 1);
      due("X", x.now(2), 0);
      due("Y", x.now(3), 1);
      x.set(0, 9);
      x.set(1, 32);
      due("X", x.now(2), 9);
      due("Y", x.now(3), 32);
    });
  }

  private static void set() {
    test(18, "when the GLASS tells X (0 to 9; 3 at first) or more", "X of -1, 0, 9, 10", () -> {
      StormHarbours x = new StormHarbours();
      due("-1", x.set(0, -1), BAD);
      due("10", x.set(0, 10), BAD);
      for (int far : Bounds.FAR) due("X " + far, x.set(0, far), BAD);
      due("0", x.set(0, 0), 3);
      due("9", x.set(0, 9), 0);
      due("as it was", x.set(0, 9), 9);
      due("Y stays", x.now(3), 4);
    });
    test(18, "when Y boats (1 to 32; 4 at first) or more", "Y of 0, 1, 32, 33", () -> {
      StormHarbours x = new StormHarbours();
      due("0", x.set(1, 0), BAD);
      due("33", x.set(1, 33), BAD);
      for (int far : Bounds.FAR) due("Y " + far, x.set(1, far), BAD);
      due("1", x.set(1, 1), 4);
      due("32", x.set(1, 32), 1);
      due("as it was", x.set(1, 10), 32);
      due("X stays", x.now(2), 3);
    });
    test(18, "X (what = 0), Y (1): what it was. BAD.", "what of -1 and 2", () -> {
      StormHarbours x = new StormHarbours();
      due("-1", x.set(-1, 5), BAD);
      due("2", x.set(2, 5), BAD);
      for (int far : Bounds.FAR) due("what " + far, x.set(far, 5), BAD);
      due("X stays", x.now(2), 3);
      due("Y stays", x.now(3), 4);
    });
  }

  private static void by() {
    test(19, "MEAN by a RULE. BAD answers the least long.", "RULES of -1 and 5", () -> {
      StormHarbours x = new StormHarbours();
      due("-1", x.by(-1), LEAST);
      due("5", x.by(5), LEAST);
      for (int far : Bounds.FAR) due("RULE " + far, x.by(far), LEAST);
    });
    test(19, "MEAN by a RULE.", "RULE 0 and RULE 4", () -> {
      StormHarbours x = Bounds.laid("h9,9,10,0;b2,9,3,1,1;d0,0,1;" + CALM);
      x.plan(0, 0, 0);
      due("told", x.by(0), 0);
      due("stay", x.by(4), 10L * 2 * 24 * 3000000);
      x.plan(0, 24, 0);
      due("told never", x.by(0), x.by(4));
    });
    test(19, "VALUE, MEAN by a RULE likewise", "STORMS that are THOUGHT of alone, one of 0 tenths", () -> {
      // By GLASS the boat runs at 0 in STORM 0, at 5 in STORM 1, at 0 in STORM 2.
      String sea = "h9,9,10,0;b1,9,1,1,1;d0,0,1;s3,0,1,0,0,0;s7,0,1,0,0,0;s0,0,1,0,0,0;g0,0,3;g1,5,9;g2,0,4;";
      due("all", Bounds.laid(sea).by(1), 7L * 5000000);
      StormHarbours x = Bounds.laid(sea);
      x.sign(0);
      due("STORM 1", x.by(1), 7L * 5000000);
      due("STORM 1, stay", x.by(4), 7L * 24000000);
      StormHarbours y = Bounds.laid(sea);
      y.sign(4);
      due("STORM 2", y.by(4), 0);
    });
  }

  private static void ranByGlass() {
    test(20, "RAN by a RULE in a STORM: 10 times u and j (240: never). BAD.", "RULES of -1 and 5", () -> {
      StormHarbours x = new StormHarbours();
      due("-1", x.ran(-1, 0, 0), BAD);
      due("5", x.ran(5, 0, 0), BAD);
      for (int far : Bounds.FAR) due("RULE " + far, x.ran(far, 0, 0), BAD);
    });
    test(20, SUCH, "STORMS and SORTS, one to four of each", () -> {
      for (int n = 1; n <= 4; n++) {
        StormHarbours x = Bounds.laid(Bounds.many(1, n, 1, n));
        for (int rule = 0; rule <= 4; rule++) {
          due("the last", x.ran(rule, n - 1, n - 1), 240);
          due("STORM", x.ran(rule, n, 0), BAD);
          due("SORT", x.ran(rule, 0, n), BAD);
          for (int far : Bounds.FAR) {
            due("STORM " + far, x.ran(rule, far, 0), BAD);
            due("SORT " + far, x.ran(rule, 0, far), BAD);
          }
        }
      }
    });
    test(20, "0 TOLD: by its PLAN (24, 0 at first)", "0, 23, never", () -> {
      StormHarbours x = Bounds.laid(Bounds.many(4, 1, 1, 1));
      due("at first", x.ran(0, 0, 0), 240);
      x.plan(0, 0, 0);
      due("0, 0", x.ran(0, 0, 0), 0);
      x.plan(0, 23, 3);
      due("23, 3", x.ran(0, 0, 0), 233);
    });
    test(20, "1 GLASS: runs to the NEAREST when the GLASS tells X (0 to 9; 3 at first) or more", "one below X, X, one above", () -> {
      for (int v = 0; v <= 9; v++) {
        StormHarbours x = Bounds.laid("h1,1,1,0;b1,1,1,1,1;" + CALM + "g0,7," + v + ";");
        due("3 at first, told " + v, x.ran(1, 0, 0), v >= 3 ? 70 : 240);
        for (int at = 0; at <= 9; at++) {
          x.set(0, at);
          due("X " + at + ", told " + v, x.ran(1, 0, 0), at == 0 ? 0 : v >= at ? 70 : 240);
        }
      }
    });
    test(20, "1 GLASS: runs to the NEAREST when the GLASS tells X", "the first HOUR of several, HOUR 0, HOUR 23", () -> {
      due("of several", Bounds.laid("h1,1,1,0;b1,1,1,1,1;" + CALM + "g0,9,3;g0,4,3;g0,20,9;").ran(1, 0, 0), 40);
      due("0", Bounds.laid("h1,1,1,0;b1,1,1,1,1;" + CALM + "g0,0,9;").ran(1, 0, 0), 0);
      due("23", Bounds.laid("h1,1,1,0;b1,1,1,1,1;" + CALM + "g0,23,9;").ran(1, 0, 0), 230);
    });
    test(20, "NEAREST: of fewest miles, the lowest", "a mile less, as many", () -> {
      String sea = "h1,1,1,0;h1,1,1,0;h1,1,1,0;h1,1,1,0;b1,1,1,1,1;" + CALM + "g0,0,9;";
      due("20 of all", Bounds.laid(sea).ran(1, 0, 0), 0);
      due("19 of the last", Bounds.laid(sea + "d0,3,19;").ran(1, 0, 0), 3);
      due("21 of the first", Bounds.laid(sea + "d0,0,21;").ran(1, 0, 0), 1);
      due("1 of two", Bounds.laid(sea + "d0,1,1;d0,2,1;").ran(1, 0, 0), 1);
      due("99 of all but one", Bounds.laid(sea + "d0,0,99;d0,1,99;d0,2,98;d0,3,99;").ran(1, 0, 0), 2);
    });
    test(20, "4 STAY", "whatever the GLASS and the PLAN", () -> {
      StormHarbours x = Bounds.laid("h1,1,1,0;b1,1,1,1,1;" + CALM + "g0,0,9;");
      x.plan(0, 0, 0);
      x.set(0, 0);
      due("ran", x.ran(4, 0, 0), 240);
    });
  }

  private static void ranByHerd() {
    String quote = "each other one runs to the NEAREST when Y boats (1 to 32; 4 at first) or more have run in HOURS ahead of this one";
    test(20, quote, "one below Y, Y, one above", () -> {
      for (int boats = 1; boats <= 8; boats++) {
        StormHarbours x = Bounds.laid("h1,1,1,0;b" + boats + ",1,1,1,1;b1,1,1,1,1;" + CALM + "g0,7,5;");
        due("4 at first, " + boats + " boats", x.ran(2, 0, 1), boats >= 4 ? 80 : 240);
        for (int y : new int[] {1, 2, 7, 8, 9, 32}) {
          x.set(1, y);
          due("Y " + y + ", " + boats + " boats", x.ran(2, 0, 1), boats >= y ? 80 : 240);
        }
      }
    });
    test(20, quote, "not in the same HOUR, however many run", () -> {
      StormHarbours x = Bounds.laid("h1,1,1,0;b8,1,1,1,1;b8,1,1,1,1;b8,1,1,1,1;" + CALM + "g0,0,9;");
      due("SORT 0", x.ran(2, 0, 0), 0);
      due("SORT 1", x.ran(2, 0, 1), 10);
      due("SORT 2, with it", x.ran(2, 0, 2), 10);
    });
    test(20, quote, "the HOUR behind 23 does not come", () -> {
      StormHarbours x = Bounds.laid("h1,1,1,0;b8,1,1,1,1;b8,1,1,1,1;" + CALM + "g0,23,9;");
      due("SORT 0", x.ran(2, 0, 0), 230);
      due("SORT 1", x.ran(2, 0, 1), 240);
      StormHarbours y = Bounds.laid("h1,1,1,0;b8,1,1,1,1;b8,1,1,1,1;" + CALM + "g0,22,9;");
      due("SORT 1", y.ran(2, 0, 1), 230);
    });
    test(20, "2 HERD: SORT 0 as GLASS", "one below X, X; the others don't ask the GLASS", () -> {
      StormHarbours x = Bounds.laid("h1,1,1,0;b8,1,1,1,1;b8,1,1,1,1;" + CALM + "g0,7,5;");
      x.set(0, 5);
      due("X", x.ran(2, 0, 0), 70);
      due("SORT 1 when the GLASS tells 0", x.ran(2, 0, 1), 80);
      x.set(0, 6);
      due("below X", x.ran(2, 0, 0), 240);
      due("SORT 1 alone", x.ran(2, 0, 1), 240);
    });
    test(20, quote, "to the NEAREST, whatever SORT 0 ran to", () -> {
      StormHarbours x = Bounds.laid("h1,1,1,0;h1,1,1,0;b8,1,1,1,1;b8,1,1,1,1;d0,1,5;d1,0,5;" + CALM + "g0,7,5;");
      due("SORT 0", x.ran(2, 0, 0), 71);
      due("SORT 1", x.ran(2, 0, 1), 80);
    });
  }

  private static void ranByOpen() {
    String into = "but to the HARBOUR that in STORMS THOUGHT of most tenths together it would get into, running alone in this HOUR";
    test(20, into, "by 4 and 6 tenths, 5 and 5, 6 and 4", () -> {
      // HARBOUR 0 is shut in STORM 1, HARBOUR 1 in STORM 0; HARBOUR 1 is the nearer one.
      String sea = "h1,1,1,2;h1,1,1,1;b1,9,1,1,1;d0,1,19;s%d,0,9,9,24,0;s%d,0,9,9,24,1;g0,0,9;";
      due("4 and 6", Bounds.laid(String.format(sea, 4, 6)).ran(3, 0, 0), 1);
      due("5 and 5: the NEAREST", Bounds.laid(String.format(sea, 5, 5)).ran(3, 0, 0), 1);
      due("6 and 4", Bounds.laid(String.format(sea, 6, 4)).ran(3, 0, 0), 0);
      due("10 and 0", Bounds.laid(String.format(sea, 10, 0)).ran(3, 0, 0), 0);
      due("0 and 10", Bounds.laid(String.format(sea, 0, 10)).ran(3, 0, 0), 1);
    });
    test(20, into, "THOUGHT of alone, one of 0 tenths too", () -> {
      String sea = "h1,1,1,2;h1,1,1,1;b1,9,1,1,1;d0,1,19;s%d,0,9,9,24,0;s%d,0,9,9,24,1;g0,0,9;";
      StormHarbours x = Bounds.laid(String.format(sea, 4, 6));
      x.sign(9);
      due("STORM 0 alone", x.ran(3, 0, 0), 0);
      StormHarbours y = Bounds.laid(String.format(sea, 6, 4));
      y.sign(0);
      due("STORM 1 alone", y.ran(3, 0, 0), 1);
      StormHarbours z = Bounds.laid(String.format(sea, 0, 10));
      z.sign(9);
      due("0 tenths: none by more, the NEAREST", z.ran(3, 0, 0), 1);
    });
    test(20, "(OPEN at some HOUR at which it is at the MOUTH; M, ROOM not asked)", "at the MOUTH at 23, at 24", () -> {
      String sea = "h1,1,10,0;h1,1,10,0;b1,1,1,1,1;d0,0,%d;d0,1,%d;" + CALM + "g0,%d,9;";
      due("23 miles, 24 from 0", Bounds.laid(String.format(sea, 24, 23, 0)).ran(3, 0, 0), 1);
      due("both too far: the NEAREST", Bounds.laid(String.format(sea, 25, 24, 0)).ran(3, 0, 0), 1);
      due("both in time: the NEAREST", Bounds.laid(String.format(sea, 22, 23, 0)).ran(3, 0, 0), 0);
      due("at 23 none is in time", Bounds.laid(String.format(sea, 2, 1, 23)).ran(3, 0, 0), 231);
    });
    test(20, "(OPEN at some HOUR at which it is at the MOUTH; M, ROOM not asked)", "open again at 23 alone, open ahead of it alone", () -> {
      String sea = "h1,1,1,1;h1,1,10,0;b1,9,1,1,1;d0,0,9;d0,1,99;s10,%d,9,9,%d,0;g0,%d,9;w9;";
      due("open again at 23", Bounds.laid(String.format(sea, 0, 23, 0)).ran(3, 0, 0), 0);
      due("shut to the end", Bounds.laid(String.format(sea, 0, 24, 0)).ran(3, 0, 0), 1);
      due("at the MOUTH as it is still open", Bounds.laid(String.format(sea, 6, 24, 4)).ran(3, 0, 0), 40);
      due("at the MOUTH as it has shut", Bounds.laid(String.format(sea, 6, 24, 5)).ran(3, 0, 0), 51);
    });
    test(20, "M, ROOM not asked", "8 boats, ROOM for one, the last HOUR", () -> {
      StormHarbours x = Bounds.laid("h1,1,10,0;h99,9,10,0;b8,9,1,1,1;d0,0,1;d0,1,9;" + CALM + "g0,22,9;");
      due("ran", x.ran(3, 0, 0), 220);
    });
    test(20, "3 OPEN: as GLASS", "one below X, X", () -> {
      StormHarbours x = Bounds.laid("h1,1,10,0;b1,9,1,1,1;d0,0,1;" + CALM + "g0,22,5;");
      x.set(0, 6);
      due("below X", x.ran(3, 0, 0), 240);
      x.set(0, 5);
      due("X", x.ran(3, 0, 0), 220);
    });
    test(20, "of several the NEAREST", "a mile less, as many: the lowest", () -> {
      String sea = "h1,1,10,0;h1,1,10,0;h1,1,10,0;b1,9,1,1,1;" + CALM + "g0,0,5;";
      due("as many", Bounds.laid(sea).ran(3, 0, 0), 0);
      due("a mile less", Bounds.laid(sea + "d0,2,19;").ran(3, 0, 0), 2);
      due("as many of two", Bounds.laid(sea + "d0,1,19;d0,2,19;").ran(3, 0, 0), 1);
    });
  }

  public static void main(String[] args) {
    sign();
    now();
    set();
    by();
    ranByGlass();
    ranByHerd();
    ranByOpen();
    Bounds.end();
  }
}
