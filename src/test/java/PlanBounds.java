/** Boundary cases of PLANS, of the MOUTHS and of what LIVES: promises 10 to 15. */
public final class PlanBounds {
  private static final int NONE = Bounds.NONE, BAD = Bounds.BAD;
  private static final long LEAST = Bounds.LEAST;
  private static final String CALM = "s10,0,1,0,0,0;";
  private static final String SUCH = "BAD: a number is none that is told (HARBOURS, SORTS, STORMS: such as there are).";

  private static void due(String call, long got, long want) { Bounds.due(call, got, want); }

  private static void test(int promise, String quote, String edge, Bounds.Body body) { Bounds.test(promise, quote, edge, body); }

  private static void plan() {
    test(10, "the HOUR u (0 to 23; 24: never) in which its boats run", "-1, 0, 23, 24, 25", () -> {
      StormHarbours x = new StormHarbours();
      due("-1", x.plan(0, -1, 0), BAD);
      due("25", x.plan(0, 25, 0), BAD);
      for (int far : Bounds.FAR) due("u " + far, x.plan(0, far, 0), BAD);
      due("0", x.plan(0, 0, 0), 240);
      due("23", x.plan(0, 23, 0), 0);
      due("24", x.plan(0, 24, 0), 230);
      due("as it was", x.plan(0, 24, 0), 240);
    });
    test(10, "10 times u and j as they were", "the greatest, never with a HARBOUR of its own", () -> {
      StormHarbours x = Bounds.laid(Bounds.many(4, 4, 1, 1));
      due("at first", x.plan(3, 23, 3), 240);
      due("23, 3", x.plan(3, 24, 3), 233);
      due("24, 3", x.plan(3, 0, 3), 243);
      due("0, 3", x.plan(3, 0, 0), 3);
      for (int i = 0; i < 3; i++) due("another SORT's", x.plan(i, 24, 0), 240);
    });
    test(10, SUCH, "the SORTS, one to four of them", () -> {
      for (int n = 1; n <= 4; n++) {
        StormHarbours x = Bounds.laid(Bounds.many(1, n, 1, 1));
        due("the last", x.plan(n - 1, 0, 0), 240);
        due("one more", x.plan(n, 0, 0), BAD);
        for (int far : Bounds.FAR) due("SORT " + far, x.plan(far, 0, 0), BAD);
      }
    });
    test(10, SUCH, "the HARBOURS, one to four of them, for never too", () -> {
      for (int n = 1; n <= 4; n++) {
        StormHarbours x = Bounds.laid(Bounds.many(n, 1, 1, 1));
        due("one more", x.plan(0, 0, n), BAD);
        due("one more, never", x.plan(0, 24, n), BAD);
        due("-1, never", x.plan(0, 24, -1), BAD);
        for (int far : Bounds.FAR) due("HARBOUR " + far, x.plan(0, 0, far), BAD);
        due("the last", x.plan(0, 0, n - 1), 240);
        due("as it was", x.plan(0, 0, 0), n - 1);
      }
    });
  }

  private static void value() {
    test(11, "a boat on the bank (t below u) fishes", "u of 0 to 24", () -> {
      StormHarbours x = Bounds.laid("h9,9,10,0;b2,9,7,10,1;d0,0,1;" + CALM);
      for (int u = 0; u <= 24; u++) {
        x.plan(0, u, 0);
        due("value of " + u, x.value(0), u * 14000000L);
      }
    });
    test(11, "F times what LIVES as each HOUR on the bank begins", "it is not yet at the RISK of that HOUR", () -> {
      StormHarbours x = Bounds.laid("h9,9,10,0;b1,9,3,0,1;d0,0,1;s10,0,1,1,24,0;r1,100;");
      long[] fish = {0, 1000000, 1900000, 2710000};
      for (int u = 0; u < fish.length; u++) {
        x.plan(0, u, 0);
        due("value of " + u, x.value(0), 3 * fish[u]);
      }
    });
    test(11, "fish worth F an HOUR (0 to 99)", "F of 0 and 99, a boat and 32", () -> {
      due("0", Bounds.laid("h9,9,10,0;b8,9,0,999,9;" + CALM).value(0), 0);
      due("99", Bounds.laid("h9,9,10,0;b1,9,99,999,9;" + CALM).value(0), 24L * 99 * 1000000);
      due("99 of 32", Bounds.laid("h9,9,10,0;" + "b8,9,99,999,9;".repeat(4) + CALM).value(0), 32L * 24 * 99 * 1000000);
    });
    test(11, "less W times what does not live in the end", "W of 0 and 999, a boat and 32", () -> {
      String storm = "s10,0,9,9,24,0;r9,200;";
      due("0", Bounds.laid("h9,9,10,0;b8,9,0,0,9;" + storm).value(0), 0);
      due("999", Bounds.laid("h9,9,10,0;b1,9,0,999,9;" + storm).value(0), -999000000L);
      due("999 of 32", Bounds.laid("h9,9,10,0;" + "b8,9,0,999,9;".repeat(4) + storm).value(0), -32L * 999000000L);
      due("fish and loss", Bounds.laid("h9,9,10,0;b1,9,99,999,9;" + storm).value(0), 99L * (1000000 + 1000 + 1) - 999000000L);
    });
    test(11, "VALUE of PLANS in a STORM", "one that is no more THOUGHT of, one of 0 tenths", () -> {
      StormHarbours x = Bounds.laid("h9,9,10,0;b1,9,2,10,1;" + CALM + "s0,0,1,0,0,0;g1,0,5;");
      due("0 tenths", x.value(1), 48000000);
      x.sign(5);
      due("no more thought of", x.value(0), 48000000);
    });
    test(11, "BAD answers the least long", "the STORMS, one to four of them", () -> {
      for (int n = 1; n <= 4; n++) {
        StormHarbours x = Bounds.laid(Bounds.many(1, 1, 1, n));
        due("the last", x.value(n - 1), 24000000);
        due("one more", x.value(n), LEAST);
        for (int far : Bounds.FAR) due("STORM " + far, x.value(far), LEAST);
      }
    });
  }

  private static void in() {
    test(12, "M come in an HOUR at most (1 to 9)", "one an HOUR, the last HOUR that is left", () -> {
      StormHarbours x = Bounds.laid("h99,1,10,0;b8,9,0,1,1;d0,0,1;" + CALM);
      for (int u = 0; u <= 23; u++) {
        x.plan(0, u, 0);
        due("in, run at " + u, x.in(0, 0), Math.min(8, 23 - u));
      }
    });
    test(12, "M come in an HOUR at most (1 to 9)", "each M in the last HOUR", () -> {
      for (int m = 1; m <= 9; m++) {
        StormHarbours x = Bounds.laid("h99," + m + ",10,0;b8,9,0,1,1;b8,9,0,1,1;d0,0,1;d1,0,1;" + CALM);
        x.plan(0, 22, 0);
        x.plan(1, 22, 0);
        due("of SORT 0, M " + m, x.in(0, 0), Math.min(8, m));
        due("of SORT 1, M " + m, x.in(0, 1), Math.max(0, m - 8));
      }
    });
    test(12, "as many as M and the ROOM left allow go in", "a ROOM of 1 to 16 for 16 boats", () -> {
      for (int r = 1; r <= 17; r++) {
        StormHarbours x = Bounds.laid("h" + r + ",9,10,0;b8,9,0,1,1;b8,9,0,1,1;d0,0,1;d1,0,1;" + CALM);
        x.plan(0, 0, 0);
        x.plan(1, 0, 0);
        due("of SORT 0, ROOM " + r, x.in(0, 0), Math.min(8, r));
        due("of SORT 1, ROOM " + r, x.in(0, 1), Math.min(8, Math.max(0, r - 8)));
      }
    });
    test(12, "as many as M and the ROOM left allow go in", "the ROOM that others left HOURS ahead", () -> {
      StormHarbours x = Bounds.laid("h9,9,10,0;h1,1,10,0;b8,9,0,1,1;b8,9,0,1,1;d0,0,1;d1,0,1;d1,1,1;" + CALM);
      x.plan(0, 0, 0);
      x.plan(1, 9, 0);
      due("one is left", x.in(0, 1), 1);
      x.plan(1, 9, 1);
      due("another HARBOUR has its own", x.in(0, 1), 1);
      due("all of SORT 0", x.in(0, 0), 8);
    });
    test(12, "of the boats there (by the HOUR they came, then SORT, then number in it)", "came an HOUR ahead, the same HOUR, an HOUR behind", () -> {
      StormHarbours x = Bounds.laid("h8,9,10,1;b8,9,0,1,1;b8,9,0,1,1;d0,0,1;d1,0,1;" + CALM);
      int[] want = {8, 8, 0};
      for (int u = 0; u < 3; u++) {
        x.plan(0, u, 0);
        x.plan(1, 1, 0);
        due("of SORT 0, run at " + u, x.in(0, 0), want[u]);
        due("of SORT 1", x.in(0, 1), 8 - want[u]);
      }
    });
    test(12, "of the boats there (by the HOUR they came, then SORT, then number in it)", "they wait for the BAR in that order", () -> {
      StormHarbours x = Bounds.laid("h8,9,1,1;b8,9,0,1,1;b8,9,0,1,1;d0,0,1;d1,0,1;s10,0,9,9,20,0;w9;");
      x.plan(0, 5, 0);
      x.plan(1, 4, 0);
      due("of SORT 1, come first", x.in(0, 1), 8);
      due("of SORT 0", x.in(0, 0), 0);
      x.plan(1, 5, 0);
      due("of SORT 0, come with it", x.in(0, 0), 8);
      due("of SORT 1", x.in(0, 1), 0);
    });
    test(12, "At a MOUTH, as an HOUR begins: if the HARBOUR is OPEN", "shut till 22, till 23, to the end", () -> {
      for (int length = 22; length <= 24; length++) {
        StormHarbours x = Bounds.laid("h99,1,1,1;b3,9,0,1,1;d0,0,1;s10,0,9,9," + length + ",0;");
        x.plan(0, 0, 0);
        due("shut for " + length, x.in(0, 0), 24 - length);
      }
    });
    test(12, "At a MOUTH, as an HOUR begins: if the HARBOUR is OPEN", "just ahead of the BAR that breaks", () -> {
      StormHarbours x = Bounds.laid("h99,9,1,1;b3,9,0,1,1;d0,0,1;s10,9,9,9,24,0;");
      x.plan(0, 7, 0);
      due("at the MOUTH at 8", x.in(0, 0), 3);
      x.plan(0, 8, 0);
      due("at the MOUTH at 9", x.in(0, 0), 0);
    });
    test(12, "(How many there are in a HARBOUR and at a MOUTH is by boats, whatever LIVES.)", "boats of which nothing lives take M and ROOM", () -> {
      String sea = ",10,0;b4,9,0,1,9;b4,9,0,1,0;d0,0,99;d1,0,99;s10,0,9,9,9,0;r9,200;w9;";
      StormHarbours x = Bounds.laid("h4,9" + sea);
      x.plan(0, 0, 0);
      x.plan(1, 0, 0);
      due("of a dead boat lives", x.lives(0, 0, 0), 0);
      due("dead ones in", x.in(0, 0), 4);
      due("no ROOM for the others", x.in(0, 1), 0);
      StormHarbours y = Bounds.laid("h9,1" + sea);
      y.plan(0, 10, 0);
      y.plan(1, 10, 0);
      due("three HOURS for the dead", y.in(0, 0), 3);
      due("none for the others", y.in(0, 1), 0);
    });
    test(12, "IN: the boats that are safe in the end", "none that stays on the bank or is under way", () -> {
      StormHarbours x = Bounds.laid("h99,9,10,0;b3,1,0,1,1;d0,0,23;" + CALM);
      due("on the bank", x.in(0, 0), 0);
      x.plan(0, 1, 0);
      due("at 24", x.in(0, 0), 0);
      x.plan(0, 0, 0);
      due("at 23", x.in(0, 0), 3);
    });
    test(12, SUCH, "STORMS and SORTS, one to four of each", () -> {
      for (int n = 1; n <= 4; n++) {
        StormHarbours x = Bounds.laid(Bounds.many(1, n, 2, n));
        due("the last", x.in(n - 1, n - 1), 0);
        due("STORM", x.in(n, 0), BAD);
        due("SORT", x.in(0, n), BAD);
        for (int far : Bounds.FAR) {
          due("STORM " + far, x.in(far, 0), BAD);
          due("SORT " + far, x.in(0, far), BAD);
        }
      }
    });
  }

  private static void lives() {
    test(13, "Of a boat there LIVES a part, 1000000 at first", "never at RISK", () -> {
      StormHarbours x = Bounds.laid("h9,9,10,0;b1,9,1,1,9;b1,9,1,1,0;s10,0,9,9,24,0;r8,200;");
      due("Q 0", x.lives(0, 0, 0), 1000000);
      due("K 0", x.lives(0, 1, 0), 1000000);
    });
    test(13, "each HOUR at RISK it is times (1000 less RISK) by 1000, cut", "cut each HOUR, not in the end", () -> {
      StormHarbours x = Bounds.laid("h9,9,10,0;b1,9,1,1,1;s10,20,9,9,24,0;r9,1;");
      // 999000, 998001, 997002 (.999), 996004 (.998)
      due("four HOURS", x.lives(0, 0, 0), 996004);
    });
    test(13, "each HOUR at RISK it is times (1000 less RISK) by 1000, cut", "a RISK of 999 leaves 1000, 1, 0, 0", () -> {
      int[] left = {1000000, 1000, 1, 0, 0};
      for (int hours = 0; hours < left.length; hours++) {
        StormHarbours x = Bounds.laid("h9,9,10,0;b1,9,1,1,9;s10,5,9,9," + hours + ",0;r9,200;");
        due(hours + " HOURS", x.lives(0, 0, 0), left[hours]);
      }
    });
    test(13, "they are safe from then on; the others are at RISK", "one an HOUR: number by number", () -> {
      StormHarbours x = Bounds.laid("h3,1,10,0;b5,9,0,1,1;d0,0,1;s10,1,9,9,24,0;r9,100;");
      x.plan(0, 0, 0);
      // In at 1, 2, 3; there is no ROOM for two, at RISK in 23 HOURS.
      long end = 1000000;
      for (int t = 1; t < 24; t++) end = end * 900 / 1000;
      long[] want = {1000000, 900000, 810000, end, end};
      for (int n = 0; n < 5; n++) due("boat " + n, x.lives(0, 0, n), want[n]);
    });
    test(13, "a boat on the bank (t below u) fishes, is at RISK; one under way", "the HOUR u itself, the way, the MOUTH", () -> {
      // At RISK in every HOUR till it is in.
      StormHarbours x = Bounds.laid("h9,9,10,0;b1,1,0,1,1;d0,0,2;s10,0,1,1,24,0;r1,100;");
      long lives = 810000;
      for (int u = 0; u <= 21; u++) {
        x.plan(0, u, 0);
        due("run at " + u + ", in at " + (u + 2), x.lives(0, 0, 0), lives);
        lives = lives * 900 / 1000;
      }
      x.plan(0, 22, 0);
      due("at the MOUTH at 24", x.lives(0, 0, 0), lives);
      x.plan(0, 24, 0);
      due("never", x.lives(0, 0, 0), lives);
    });
    test(13, "What LIVES of a boat (number n of a SORT) in the end. BAD.", "n of SORTS of 1 to 8 boats", () -> {
      for (int boats = 1; boats <= 8; boats++) {
        StormHarbours x = Bounds.laid(Bounds.many(1, 2, boats, 1) + "b1,1,1,1,1;");
        due("the last", x.lives(0, 1, boats - 1), 1000000);
        due("one more", x.lives(0, 1, boats), BAD);
        due("-1", x.lives(0, 1, -1), BAD);
        due("of another SORT", x.lives(0, 2, 1), BAD);
        for (int far : Bounds.FAR) due("n " + far, x.lives(0, 0, far), BAD);
      }
    });
    test(13, SUCH, "STORMS and SORTS, one to four of each", () -> {
      for (int n = 1; n <= 4; n++) {
        StormHarbours x = Bounds.laid(Bounds.many(1, n, 8, n));
        due("the last", x.lives(n - 1, n - 1, 7), 1000000);
        due("STORM", x.lives(n, 0, 0), BAD);
        due("SORT", x.lives(0, n, 0), BAD);
        for (int far : Bounds.FAR) {
          due("STORM " + far, x.lives(far, 0, 0), BAD);
          due("SORT " + far, x.lives(0, far, 0), BAD);
        }
      }
    });
  }

  private static void mean() {
    test(14, "the sum of tenths times VALUE", "tenths of 0, 1, 9, 10", () -> {
      // One boat that is lost in HOUR 0 but for 1000, 1, 0: no fish; the calm leaves 240 of fish 10.
      String sea = "h9,9,10,0;b1,9,10,5,0;";
      due("10", Bounds.laid(sea + CALM).mean(), 2400000000L);
      due("0 and 10", Bounds.laid(sea + "s0,0,1,0,0,0;" + CALM).mean(), 2400000000L);
      String mixed = "h9,9,10,0;b1,9,0,5,9;s1,23,9,9,24,0;s9,0,1,0,0,0;r9,200;";
      due("1 of a loss of 999000", Bounds.laid(mixed).mean(), -5L * 999000);
      due("9 of it", Bounds.laid(mixed.replace("s1,", "s9,").replace("s9,0,1", "s1,0,1")).mean(), -45L * 999000);
    });
    test(14, "over STORMS that are THOUGHT of (all at first)", "one of four, one of 0 tenths", () -> {
      String sea = "h9,9,10,0;b1,9,1,5,9;s1,0,1,0,0,0;s2,0,1,0,0,0;s7,0,1,0,0,0;s0,0,1,0,0,0;";
      StormHarbours all = Bounds.laid(sea);
      due("all", all.mean(), 240000000);
      for (int s = 0; s < 4; s++) {
        StormHarbours x = Bounds.laid(sea + "g" + s + ",0,4;");
        due("sign", x.sign(4), 1 << s);
        due("STORM " + s + " alone", x.mean(), 24000000L * new int[] {1, 2, 7, 0}[s]);
        StormHarbours y = Bounds.laid(sea + "g" + s + ",0,4;");
        due("sign", y.sign(0), 15 - (1 << s));
        due("all but STORM " + s, y.mean(), 24000000L * (10 - new int[] {1, 2, 7, 0}[s]));
      }
    });
    test(14, "MEAN.", "the greatest and the least sum", () -> {
      due("greatest", Bounds.laid("h9,9,10,0;" + "b8,9,99,999,9;".repeat(4) + CALM).mean(), 10L * 32 * 24 * 99 * 1000000);
      due("least", Bounds.laid("h9,9,10,0;" + "b8,9,0,999,9;".repeat(4) + "s10,0,9,9,24,0;r9,200;").mean(), -10L * 32 * 999 * 1000000);
    });
  }

  private static void shut() {
    test(15, "NONE (no such one: none that runs does not get in)", "none runs", () -> {
      StormHarbours x = Bounds.laid("h1,1,1,15;b8,1,1,1,1;b8,1,1,1,1;s10,0,9,9,24,0;");
      due("shut", x.shut(0), NONE);
    });
    test(15, "NONE (no such one: none that runs does not get in)", "all that run get in, another stays", () -> {
      StormHarbours x = Bounds.laid("h8,9,10,0;b8,9,1,1,1;b8,9,1,1,1;d0,0,1;d1,0,1;" + CALM);
      x.plan(1, 22, 0);
      due("at 23", x.shut(0), NONE);
      x.plan(1, 23, 0);
      due("at 24", x.shut(0), 10);
      x.plan(1, 24, 0);
      due("never", x.shut(0), NONE);
    });
    test(15, "NONE (no such one: none that runs does not get in)", "all of four SORTS get in, the last in the last HOUR", () -> {
      StormHarbours x = Bounds.laid("h32,8,10,0;" + "b8,9,1,1,1;".repeat(4) + "d0,0,1;d1,0,1;d2,0,1;d3,0,1;" + CALM);
      for (int i = 0; i < 4; i++) x.plan(i, 19, 0);
      due("20 to 23", x.shut(0), NONE);
      for (int i = 0; i < 4; i++) x.plan(i, 20, 0);
      due("21 to 23", x.shut(0), 30);
    });
    test(15, "the first boat that can't get in where it is sent in a STORM (10 times SORT, and number)", "no ROOM, no HOUR, no open BAR", () -> {
      StormHarbours x = Bounds.laid("h7,9,10,0;h9,1,10,0;h9,9,1,15;h9,9,10,0;b8,9,1,1,1;d0,0,1;d0,1,1;d0,2,1;d0,3,99;s10,1,9,9,24,0;w9;");
      x.plan(0, 0, 0);
      due("ROOM for 7", x.shut(0), 7);
      x.plan(0, 16, 1);
      due("7 HOURS", x.shut(0), 7);
      x.plan(0, 22, 1);
      due("one HOUR", x.shut(0), 1);
      x.plan(0, 0, 2);
      due("shut from 1 on", x.shut(0), 0);
      x.plan(0, 23, 3);
      due("too far", x.shut(0), 0);
    });
    test(15, "the first boat that can't get in where it is sent in a STORM (10 times SORT, and number)", "the first SORT of several, the last boat of all", () -> {
      StormHarbours x = Bounds.laid("h31,9,10,0;" + "b8,9,1,1,1;".repeat(4) + "d0,0,1;d1,0,1;d2,0,1;d3,0,1;" + CALM);
      for (int i = 0; i < 4; i++) x.plan(i, 0, 0);
      due("31 of 32", x.shut(0), 37);
      x.plan(0, 1, 0);
      due("SORT 0 comes last", x.shut(0), 7);
      x.plan(2, 23, 0);
      due("SORT 2 too late", x.shut(0), 20);
      x.plan(1, 23, 0);
      due("SORTS 1 and 2 too late", x.shut(0), 10);
    });
    test(15, SUCH, "the STORMS, one to four of them", () -> {
      for (int n = 1; n <= 4; n++) {
        StormHarbours x = Bounds.laid(Bounds.many(1, 1, 1, n));
        due("the last", x.shut(n - 1), NONE);
        due("one more", x.shut(n), BAD);
        for (int far : Bounds.FAR) due("STORM " + far, x.shut(far), BAD);
      }
    });
  }

  public static void main(String[] args) {
    plan();
    value();
    in();
    lives();
    mean();
    shut();
    Bounds.end();
  }
}
