import java.math.BigInteger;

/** Boundary cases of ALONE, BETTER, GUN, CONVOY, FIRST, NIGHT and what is KEPT: promises 21 to 31. */
public final class BetterBounds {
  private static final int NO = Bounds.NO, BAD = Bounds.BAD, FULL = Bounds.FULL, NONE = Bounds.NONE;
  private static final long LEAST = Bounds.LEAST;
  private static final String CALM = "s10,0,1,0,0,0;";
  private static final String SUCH = "BAD: a number is none that is told (HARBOURS, SORTS, STORMS: such as there are).";

  private static void due(String call, long got, long want) { Bounds.due(call, got, want); }

  private static void test(int promise, String quote, String edge, Bounds.Body body) { Bounds.test(promise, quote, edge, body); }

  /**
   * Strength 9 from HOUR 5 on by 5 tenths, calm by 5. In the storm the boat that runs at 4 is in at
   * 5 and has fished 4; the one that runs at 5 is in at 7 and loses 190000 of 100; in the calm it
   * fishes 24.
   */
  private static final String GALE = "h9,9,10,0;b1,9,1,100,1;d0,0,9;s5,5,9,9,24,0;s5,0,1,0,0,0;r9,100;";

  /** The same storm by 10 tenths. */
  private static final String HARD = "h9,9,10,0;b1,9,1,100,1;d0,0,9;s10,5,9,9,24,0;r9,100;";

  private static void alone() {
    test(21, "as each HOUR begins (from 0 on), the GLASS of that HOUR being seen", "told in the last HOUR in which it helps, an HOUR later, never", () -> {
      due("at 4", Bounds.laid(GALE + "g0,4,1;").alone(0), 5 * 4000000L + 5 * 24000000L);
      due("at 5", Bounds.laid(GALE + "g0,5,1;").alone(0), 5 * (5000000L - 19000000L) + 5 * 24000000L);
      due("never", Bounds.laid(GALE).alone(0), 10 * 4000000L);
      due("by the calm at 4", Bounds.laid(GALE + "g1,4,1;").alone(0), 5 * 4000000L + 5 * 24000000L);
    });
    test(21, "as each HOUR begins (from 0 on), the GLASS of that HOUR being seen", "HOUR 0", () -> {
      // From HOUR 1 on there is strength 9: it must run at 0.
      String sea = "h9,9,10,0;b1,9,1,100,1;d0,0,9;s5,1,9,9,24,0;s5,0,1,0,0,0;r9,100;";
      due("told at 0", Bounds.laid(sea + "g0,0,1;").alone(0), 5 * 24000000L);
      due("told at 1", Bounds.laid(sea + "g0,1,1;").alone(0), 5 * (1000000L - 19000000L) + 5 * 24000000L);
    });
    test(21, "the GLASS of that HOUR being seen", "each that it can tell, 0 to 9", () -> {
      for (int v = 0; v <= 9; v++) {
        long parted = 5 * 4000000L + 5 * 24000000L;
        due("told " + v, Bounds.laid(GALE + "g0,4," + v + ";").alone(0), v == 0 ? 40000000 : parted);
        due("told 9 and " + v, Bounds.laid(GALE + "g0,4," + v + ";g1,4,9;").alone(0), v == 9 ? 40000000 : parted);
      }
    });
    test(21, "it goes in when OPEN, M, ROOM are not asked", "8 boats, ROOM for one; one waits for the BAR", () -> {
      due("ROOM", Bounds.laid(HARD.replace("h9,9", "h1,1").replace("b1,9", "b8,9")).alone(0), 10 * 4000000L);
      // Shut at 1 and 2, it waits at the MOUTH and goes in at 3 with 640000 left of 1000000.
      due("waits", Bounds.laid("h9,9,9,1;b1,9,0,10,2;d0,0,9;s10,1,9,9,2,0;r9,100;").alone(0), -10L * 10 * 360000);
      due("never open", Bounds.laid("h9,9,1,1;b1,9,0,10,1;s10,0,9,9,24,0;r9,100;w9;").alone(0), 10L * Bounds.laid("h9,9,1,1;b1,9,0,10,1;s10,0,9,9,24,0;r9,100;w9;").value(0));
    });
    test(21, "the way of the greatest sum of tenths times VALUE over all STORMS", "whatever is THOUGHT, whatever the PLANS", () -> {
      StormHarbours x = Bounds.laid(GALE + "g0,4,1;");
      long sum = 5 * 4000000L + 5 * 24000000L;
      x.plan(0, 0, 0);
      for (int t = 0; t < 4; t++) x.sign(0);
      due("sign", x.sign(1), 1);
      due("alone", x.alone(0), sum);
    });
    test(21, "the way of the greatest sum of tenths times VALUE over all STORMS", "a STORM of 0 tenths counts nothing", () -> {
      due("alone", Bounds.laid(GALE.replace("s5,5", "s0,5").replace("s5,0", "s10,0")).alone(0), 240000000);
      due("the calm of 0", Bounds.laid(GALE.replace("s5,5", "s10,5").replace("s5,0", "s0,0")).alone(0), 40000000);
    });
    test(21, "ALONE: one boat of a SORT", "one, however many there are", () -> {
      due("of 8", Bounds.laid("h9,9,10,0;b8,9,99,999,9;" + CALM).alone(0), 10L * 24 * 99 * 1000000);
    });
    test(21, "ALONE: the sum. BAD answers the least long.", "the SORTS, one to four of them", () -> {
      for (int n = 1; n <= 4; n++) {
        StormHarbours x = Bounds.laid(Bounds.many(1, n, 1, 1));
        due("the last", x.alone(n - 1), 240000000);
        due("one more", x.alone(n), LEAST);
        for (int far : Bounds.FAR) due("SORT " + far, x.alone(far), LEAST);
      }
    });
  }

  private static void does() {
    test(22, "0 stays, 1 and HARBOUR; of several the lowest", "staying is as good", () -> {
      StormHarbours x = Bounds.laid("h9,9,10,0;b1,9,0,100,1;d0,0,1;" + CALM);
      for (int t = 0; t < 24; t++) due("at " + t, x.does(0, t, 1), 0);
    });
    test(22, "0 stays, 1 and HARBOUR; of several the lowest", "HARBOURS that are as good, the last one", () -> {
      String sea = "h9,9,10,0;h9,9,10,0;h9,9,10,0;h9,9,10,0;b1,9,1,100,1;%ss10,1,9,9,24,0;r9,100;";
      due("all", Bounds.laid(String.format(sea, "d0,0,9;d0,1,9;d0,2,9;d0,3,9;")).does(0, 0, 1), 1);
      due("two", Bounds.laid(String.format(sea, "d0,2,9;d0,3,8;")).does(0, 0, 1), 3);
      due("the last", Bounds.laid(String.format(sea, "d0,3,9;")).does(0, 0, 1), 4);
    });
    test(22, "what it does at an HOUR with a set of STORMS (bits) that are still possible (that HOUR's GLASS seen)", "one, the other, both", () -> {
      StormHarbours x = Bounds.laid(GALE + "g0,4,1;");
      due("the storm at 3", x.does(0, 3, 1), 0);
      due("the storm at 4", x.does(0, 4, 1), 1);
      due("the storm at 5", x.does(0, 5, 1), 1);
      due("the calm at 4", x.does(0, 4, 2), 0);
      due("both at 3: the GLASS of 4 will tell", x.does(0, 3, 3), 0);
      StormHarbours y = Bounds.laid(GALE);
      due("both at 3", y.does(0, 3, 3), 0);
      due("both at 4: nothing will tell", y.does(0, 4, 3), 1);
      due("both at 4: the GLASS of 5 will tell", Bounds.laid(GALE + "g0,5,1;").does(0, 4, 3), 0);
    });
    test(22, "it stays, or runs to a HARBOUR", "HOUR 22 and HOUR 23, the last ones", () -> {
      StormHarbours x = Bounds.laid("h9,9,10,0;b1,9,0,100,1;d0,0,9;s10,23,9,9,24,0;r9,100;");
      due("at 22", x.does(0, 22, 1), 1);
      due("at 23 it helps no more", x.does(0, 23, 1), 0);
    });
    test(22, "with a set of STORMS (bits) that are still possible", "the set that is given, whatever is THOUGHT", () -> {
      StormHarbours x = Bounds.laid(GALE + "g0,0,1;");
      due("sign", x.sign(0), 2);
      due("both at 4", x.does(0, 4, 3), 1);
      due("the storm at 4", x.does(0, 4, 1), 1);
      due("the calm at 4", x.does(0, 4, 2), 0);
    });
    test(22, "a set of STORMS (1 and above)", "0, below, above all", () -> {
      for (int n = 1; n <= 4; n++) {
        StormHarbours x = Bounds.laid(Bounds.many(1, 1, 1, n));
        due("0", x.does(0, 0, 0), BAD);
        due("1", x.does(0, 0, 1), 0);
        due("all", x.does(0, 0, (1 << n) - 1), 0);
        due("one more", x.does(0, 0, 1 << n), BAD);
        due("all and one more", x.does(0, 0, (2 << n) - 1), BAD);
        for (int far : Bounds.FAR) due("set " + far, x.does(0, 0, far), BAD);
      }
    });
    test(22, "a set of STORMS (1 and above)", "one of 0 tenths alone: all is as good", () -> {
      StormHarbours x = Bounds.laid(GALE.replace("s5,5", "s0,5").replace("s5,0", "s10,0"));
      due("the storm of 0 tenths", x.does(0, 4, 1), 0);
    });
    test(22, SUCH, "the SORTS, one to four of them", () -> {
      for (int n = 1; n <= 4; n++) {
        StormHarbours x = Bounds.laid(Bounds.many(1, n, 1, 1));
        due("the last", x.does(n - 1, 0, 1), 0);
        due("one more", x.does(n, 0, 1), BAD);
        for (int far : Bounds.FAR) due("SORT " + far, x.does(far, 0, 1), BAD);
      }
    });
    test(22, "HOURS are 0 to 23.", "-1 and 24", () -> {
      StormHarbours x = new StormHarbours();
      due("0", x.does(0, 0, 1), 0);
      due("23", x.does(0, 23, 1), 0);
      due("-1", x.does(0, -1, 1), BAD);
      due("24", x.does(0, 24, 1), BAD);
      for (int far : Bounds.FAR) due("HOUR " + far, x.does(0, far, 1), BAD);
    });
  }

  private static void better() {
    test(23, "each gets, if there is one of a greater MEAN", "none is greater: it stays as it is", () -> {
      for (int own = 0; own < 2; own++) {
        StormHarbours x = Bounds.laid("h9,9,10,0;h9,9,10,0;b1,9,0,10,1;" + CALM);
        x.plan(0, 13, 1);
        due("rounds", x.better(own == 1), 1);
        due("plan", x.plan(0, 13, 1), 131);
      }
    });
    test(23, "the PLAN of the greatest MEAN (of several the first by u, then j)", "the first u, the first j", () -> {
      for (int own = 0; own < 2; own++) {
        StormHarbours x = Bounds.laid("h9,9,10,0;h9,9,10,0;b1,9,0,10,1;d0,0,9;d0,1,9;s10,5,9,9,24,0;r9,9;");
        due("rounds", x.better(own == 1), 2);
        due("plan", x.plan(0, 0, 0), 0);
        StormHarbours y = Bounds.laid("h9,9,1,1;h9,9,10,0;h9,9,10,0;b1,9,0,10,1;d0,0,9;d0,1,9;d0,2,9;s10,1,9,9,24,0;r9,9;");
        due("rounds", y.better(own == 1), 2);
        due("plan", y.plan(0, 0, 0), 1);
      }
    });
    test(23, "the PLAN of the greatest MEAN (of several the first by u, then j)", "u ahead of j", () -> {
      // SORT 0, at no RISK, stands in the way of SORT 1 at HARBOUR 0; to 1 at once or to 0 later is as good.
      StormHarbours x = Bounds.laid("h9,1,10,0;h9,9,10,0;b1,9,0,0,0;b1,9,0,10,1;d0,0,9;d1,0,9;s10,1,9,9,24,0;r9,100;");
      x.plan(0, 0, 0);
      x.plan(1, 0, 0);
      due("mean", x.mean(), -10000000);
      due("rounds", x.better(false), 2);
      due("mean", x.mean(), 0);
      due("plan of SORT 0", x.plan(0, 0, 0), 1);
      due("plan of SORT 1", x.plan(1, 0, 0), 0);
      due("each for itself: it is nothing to SORT 0", x.better(true), 1);
      due("plan of SORT 0", x.plan(0, 0, 0), 0);
    });
    test(23, "round by round, till a round changes none (6 rounds at most): how many rounds (that one, too)", "one to six, each for itself", () -> {
      String[] seas = {
          "h1,1,8,7;b2,5,1,0,3;b1,5,6,5,4;d0,0,3;d1,0,7;s10,4,1,9,20,0;r9,3;r5,45;",
          "h2,1,9,7;b3,6,0,53,1;b4,5,5,43,2;d0,0,20;d1,0,5;s10,7,6,9,6,0;r9,50;r5,4;",
          "h4,1,4,0;b3,5,5,44,3;b2,5,0,4,3;d0,0,18;d1,0,8;s10,6,4,9,17,3;r9,149;r5,1;",
          "h6,2,7,10;b1,3,8,92,4;b4,4,7,207,2;b4,2,0,165,3;d0,0,9;d1,0,5;d2,0,2;s10,4,8,9,4,2;r9,132;r5,148;",
          "h5,2,3,14;b4,7,5,188,3;b1,2,6,95,4;b1,3,0,127,1;d0,0,17;d1,0,5;d2,0,13;s10,9,5,9,15,0;r9,115;r5,99;",
          "h4,2,6,5;b1,8,1,144,1;b1,4,0,8,1;b3,6,5,219,2;d0,0,3;d1,0,19;d2,0,10;s10,7,3,9,9,1;r9,181;r5,21;"};
      for (int k = 0; k < seas.length; k++) {
        StormHarbours x = Bounds.laid(seas[k]);
        due("rounds of " + seas[k], x.better(true), k + 1);
        due("rounds again", x.better(true), 1);
      }
    });
    test(23, "round by round, till a round changes none (6 rounds at most): how many rounds (that one, too)", "one to six, together", () -> {
      String[] seas = {
          "h1,1,8,7;b2,5,1,0,3;b1,5,6,5,4;d0,0,3;d1,0,7;s10,4,1,9,20,0;r9,3;r5,45;",
          "h2,1,9,7;b3,6,0,53,1;b4,5,5,43,2;d0,0,20;d1,0,5;s10,7,6,9,6,0;r9,50;r5,4;",
          "h3,2,1,3;b3,8,2,28,1;b3,8,4,93,4;d0,0,2;d1,0,20;s10,7,7,9,11,3;r9,168;r5,6;",
          "h4,1,6,8;b3,8,1,63,2;b2,6,7,299,3;d0,0,2;d1,0,15;s10,9,8,9,4,1;r9,90;r5,93;",
          "h6,2,5,1;b2,1,8,191,4;b4,2,8,247,3;b4,9,4,284,2;d0,0,7;d1,0,17;d2,0,14;s10,7,6,9,21,3;r9,87;r5,175;",
          "h6,2,5,9;b2,3,3,207,1;b1,9,3,165,2;b4,5,5,80,3;b4,8,5,182,3;d0,0,15;d1,0,13;d2,0,8;d3,0,12;s10,3,5,9,17,2;r9,60;r5,108;"};
      for (int k = 0; k < seas.length; k++) {
        StormHarbours x = Bounds.laid(seas[k]);
        due("rounds of " + seas[k], x.better(false), k + 1);
        due("rounds again", x.better(false), 1);
      }
    });
    test(23, "rounds; NONE: still changed in the last", "a seventh round would change none", () -> {
      due("rounds", Bounds.laid("h4,1,7,1;b3,7,7,242,3;b1,2,0,35,2;b1,3,3,246,4;d0,0,4;d1,0,4;d2,0,3;s10,9,5,9,12,2;r9,192;r5,135;").better(true), NONE);
      due("rounds", Bounds.laid("h4,2,6,7;b3,9,6,125,4;b1,4,0,38,1;b1,9,5,218,4;d0,0,9;d1,0,12;d2,0,14;s10,9,5,9,7,3;r9,52;r5,130;").better(true), NONE);
    });
    test(23, "rounds; NONE: still changed in the last", "two SORTS that never come to rest", () -> {
      due("rounds", Bounds.laid("h3,2,1,3;b3,8,2,28,1;b3,8,4,93,4;d0,0,2;d1,0,20;s10,7,7,9,11,3;r9,168;r5,6;").better(true), NONE);
      due("rounds", Bounds.laid("h3,1,2,2;b4,1,6,55,4;b1,4,3,69,4;d0,0,1;d1,0,16;s10,6,9,9,18,0;r9,86;r5,79;r3,5;").better(true), NONE);
    });
    test(23, "each gets, if there is one of a greater MEAN", "never is a PLAN too, and HOUR 23", () -> {
      StormHarbours x = Bounds.laid("h9,9,10,0;b1,9,1,10,1;" + CALM);
      x.plan(0, 23, 0);
      due("rounds", x.better(false), 2);
      due("plan", x.plan(0, 24, 0), 240);
      StormHarbours y = Bounds.laid("h9,9,10,0;h9,9,10,0;b1,9,1,10,1;" + CALM);
      y.plan(0, 24, 1);
      due("never has no greater one", y.better(true), 1);
      due("plan", y.plan(0, 24, 0), 241);
    });
    test(23, "SORT by SORT, from 0 on, each gets", "four SORTS, four HARBOURS, the last of them", () -> {
      // Only HARBOUR 3 is near enough for each.
      StormHarbours x = Bounds.laid("h9,9,10,0;".repeat(3) + "h32,9,10,0;" + "b1,9,0,10,1;".repeat(4) + "d0,3,9;d1,3,9;d2,3,9;d3,3,9;s10,1,9,9,24,0;r9,100;");
      due("rounds", x.better(false), 2);
      for (int i = 0; i < 4; i++) due("plan of SORT " + i, x.ran(0, 0, i), 3);
      due("each for itself", x.better(true), 1);
      due("mean", x.mean(), 0);
    });
    test(23, "MEAN of PLANS: the sum of tenths times VALUE over STORMS that are THOUGHT of", "the storm alone, the calm alone", () -> {
      for (int own = 0; own < 2; own++) {
        StormHarbours x = Bounds.laid(GALE + "g0,0,1;");
        due("sign", x.sign(1), 1);
        due("rounds", x.better(own == 1), 2);
        due("plan", x.plan(0, 0, 0), 40);
        StormHarbours y = Bounds.laid(GALE + "g0,0,1;");
        y.plan(0, 4, 0);
        due("sign", y.sign(0), 2);
        due("rounds", y.better(own == 1), 2);
        due("plan", y.plan(0, 0, 0), 240);
      }
    });
    test(23, "MEAN of PLANS: the sum of tenths times VALUE over STORMS that are THOUGHT of", "STORMS of 0 tenths alone: none is greater", () -> {
      StormHarbours x = Bounds.laid(GALE.replace("s5,5", "s0,5").replace("s5,0", "s10,0") + "g0,0,1;");
      x.plan(0, 9, 0);
      due("sign", x.sign(1), 1);
      due("rounds", x.better(false), 1);
      due("plan", x.plan(0, 9, 0), 90);
    });
  }

  private static void gun() {
    test(24, "GUN: MEAN at u (0 to 24). BAD answers the least long.", "-1 and 25", () -> {
      StormHarbours x = Bounds.laid(HARD);
      due("-1", x.gun(-1), LEAST);
      due("25", x.gun(25), LEAST);
      for (int far : Bounds.FAR) due("u " + far, x.gun(far), LEAST);
    });
    test(24, "GUN: MEAN at u (0 to 24).", "0, just ahead of the storm, in it, 24", () -> {
      StormHarbours x = Bounds.laid(HARD);
      due("0", x.gun(0), 0);
      due("4", x.gun(4), 40000000);
      due("5", x.gun(5), 10 * (5000000 - 19000000));
      due("24", x.gun(24), x.by(4));
      due("24 is as the PLANS at first", x.gun(24), x.mean());
      due("23 is an HOUR less of fish", x.gun(24) - x.gun(23), 10L * fishOf23());
    });
    test(24, "all SORTS run to their NEAREST at u", "each its own, of several the lowest", () -> {
      // HARBOUR 0 is never open: SORT 0, to which all are as near, is lost there.
      StormHarbours x = Bounds.laid("h9,9,1,1;h9,9,10,0;h9,9,10,0;b1,9,0,10,1;b1,9,0,10,1;d1,1,9;d1,2,9;s10,1,9,9,24,0;r9,100;");
      long lives = 1000000;
      for (int t = 1; t < 24; t++) lives = lives * 900 / 1000;
      due("gun", x.gun(0), -100 * (1000000 - lives));
    });
    test(24, "all SORTS run to their NEAREST at u", "four SORTS, four HARBOURS", () -> {
      StormHarbours x = Bounds.laid("h1,9,1,15;".repeat(3) + "h32,9,10,0;" + "b8,9,1,100,1;".repeat(4) + "d0,3,9;d1,3,9;d2,3,9;d3,3,9;" + CALM);
      due("gun(7)", x.gun(7), 10L * 32 * 7000000);
      due("bestGun", x.bestGun(), 24);
    });
    test(24, "MEAN at u", "STORMS that are THOUGHT of alone", () -> {
      StormHarbours x = Bounds.laid(GALE + "g0,0,1;");
      due("both", x.gun(5), 5 * (5000000 - 19000000) + 5 * 5000000);
      x.sign(0);
      due("the calm", x.gun(5), 5 * 5000000);
      due("its best HOUR", x.bestGun(), 24);
    });
    test(25, "the best HOUR (0 to 24), the first", "0, 4, 24", () -> {
      due("all as good", Bounds.laid("h9,9,10,0;b1,9,0,10,1;" + CALM).bestGun(), 0);
      due("just ahead of the storm", Bounds.laid(HARD).bestGun(), 4);
      due("never", new StormHarbours().bestGun(), 24);
    });
    test(25, "the best HOUR (0 to 24), the first", "0 and 1 alone are the best", () -> {
      due("0", Bounds.laid(HARD.replace("s10,5", "s10,1")).bestGun(), 0);
      due("1", Bounds.laid(HARD.replace("s10,5", "s10,2")).bestGun(), 1);
    });
    test(25, "the best HOUR (0 to 24), the first", "of several the first", () -> {
      due("0 to 4", Bounds.laid(HARD.replace("b1,9,1", "b1,9,0")).bestGun(), 0);
      due("all, by STORMS of 0 tenths", signedOut().bestGun(), 0);
    });
    test(25, "the best HOUR (0 to 24), the first", "22, the last one at which a boat still gets in", () -> {
      StormHarbours x = Bounds.laid("h9,9,10,0;b1,9,1,100,1;d0,0,9;s10,23,9,9,24,0;r9,200;");
      due("22", x.bestGun(), 22);
      due("gun", x.gun(22), 220000000);
    });
  }

  /** What LIVES as HOUR 23 begins of a boat on the bank in HARD: the fish of that HOUR by 1. */
  private static long fishOf23() {
    long lives = 1000000;
    for (int t = 5; t < 23; t++) lives = lives * 900 / 1000;
    return lives;
  }

  /** Thinks of a STORM of 0 tenths alone. */
  private static StormHarbours signedOut() {
    StormHarbours x = Bounds.laid(GALE.replace("s5,5", "s0,5").replace("s5,0", "s10,0") + "g0,0,1;");
    due("sign", x.sign(1), 1);
    return x;
  }

  private static void convoy() {
    // SPEEDS 9, 3, 1 over 9 miles at strength 1, RISK 100: in at 1, 3, 9; 100000, 271000, 612581 lost at 100.
    String sea = "h9,9,10,0;h9,9,10,0;b1,9,0,100,1;b1,3,0,100,1;b1,1,0,100,1;d0,0,9;d1,0,9;d2,0,9;s10,0,1,1,24,0;r1,100;";
    long[] lost = {100000, 271000, lostIn(9)};
    test(26, "all of them make the least SPEED of these", "one, two, three of them", () -> {
      StormHarbours x = Bounds.laid(sea);
      for (int i = 0; i < 3; i++) x.plan(i, 0, 0);
      int[] slowest = {0, 0, 1, 1, 2, 2, 2, 2};
      for (int set = 1; set < 8; set++) {
        long sum = 0;
        for (int i = 0; i < 3; i++) sum += (set >> i & 1) == 1 ? lost[slowest[set]] : lost[i];
        due("convoy of " + set, x.convoy(set, 0, 0), -1000 * sum);
      }
    });
    test(26, "CONVOY of SORTS (bits) to HARBOUR j at u (0 to 23)", "u of -1, 0, 23, 24", () -> {
      StormHarbours x = Bounds.laid("h9,9,10,0;b1,9,1,100,1;" + CALM);
      due("-1", x.convoy(1, -1, 0), LEAST);
      due("24", x.convoy(1, 24, 0), LEAST);
      for (int far : Bounds.FAR) due("u " + far, x.convoy(1, far, 0), LEAST);
      due("0", x.convoy(1, 0, 0), 0);
      due("23", x.convoy(1, 23, 0), 230000000);
    });
    test(26, "CONVOY of SORTS (bits)", "SORTS that there are not", () -> {
      for (int n = 1; n <= 4; n++) {
        StormHarbours x = Bounds.laid(Bounds.many(1, n, 1, 1));
        due("all", x.convoy((1 << n) - 1, 0, 0), 0);
        due("the last alone", x.convoy(1 << n - 1, 0, 0), 240000000L * (n - 1));
        due("one more", x.convoy(1 << n, 0, 0), LEAST);
        due("all and one more", x.convoy((2 << n) - 1, 0, 0), LEAST);
        due("-1", x.convoy(-1, 0, 0), LEAST);
        for (int far : Bounds.FAR) due("SORTS " + far, x.convoy(far, 0, 0), LEAST);
      }
    });
    test(26, SUCH, "the HARBOURS, one to four of them", () -> {
      for (int n = 1; n <= 4; n++) {
        StormHarbours x = Bounds.laid(Bounds.many(n, 1, 1, 1));
        due("the last", x.convoy(1, 1, n - 1), 10000000);
        due("one more", x.convoy(1, 0, n), LEAST);
        for (int far : Bounds.FAR) due("HARBOUR " + far, x.convoy(1, 0, far), LEAST);
      }
    });
    test(26, "MEAN (other SORTS by their PLANS)", "never, and a PLAN to another HARBOUR", () -> {
      StormHarbours x = Bounds.laid("h9,9,10,0;h9,9,10,0;b1,9,1,1,1;b1,9,2,1,1;" + CALM);
      due("never", x.convoy(1, 0, 0), 10 * 48000000L);
      x.plan(1, 7, 1);
      due("at 7", x.convoy(1, 0, 0), 10 * 14000000L);
      due("in it", x.convoy(3, 1, 0), 10 * 3000000L);
      due("its PLAN stays", x.plan(1, 7, 1), 71);
      due("the other's PLAN stays", x.plan(0, 24, 0), 240);
    });
    test(26, "all of them make the least SPEED of these", "the slowest told first, between, last", () -> {
      // 9 miles by the least SPEED, 1: all are in at 9.
      for (String speeds : new String[] {"1,9,9", "9,1,9", "9,9,1"}) {
        String[] of = speeds.split(",");
        StormHarbours x = Bounds.laid("h9,9,10,0;b1," + of[0] + ",0,100,1;b1," + of[1] + ",0,100,1;b1," + of[2] + ",0,100,1;d0,0,9;d1,0,9;d2,0,9;s10,0,1,1,24,0;r1,100;");
        due("SPEEDS " + speeds, x.convoy(7, 0, 0), -3000 * lostIn(9));
      }
    });
    test(26, "at u (0 to 23): all of them make the least SPEED of these: MEAN", "STORMS that are THOUGHT of alone", () -> {
      StormHarbours x = Bounds.laid(GALE + "g0,0,1;");
      due("both", x.convoy(1, 5, 0), 5 * (5000000 - 19000000) + 5 * 5000000);
      x.sign(0);
      due("the calm", x.convoy(1, 5, 0), 5 * 5000000);
    });
    test(26, "all of them make the least SPEED of these", "the other calls don't", () -> {
      StormHarbours x = Bounds.laid(sea);
      for (int i = 0; i < 3; i++) x.plan(i, 0, 0);
      long mean = -1000 * (lost[0] + lost[1] + lost[2]);
      x.convoy(7, 0, 0);
      due("mean", x.mean(), mean);
      x.convoy(7, 0, 0);
      due("value", x.value(0), mean / 10);
      x.convoy(7, 0, 0);
      due("lives", x.lives(0, 0, 0), 900000);
      x.convoy(7, 23, 0);
      due("in", x.in(0, 0), 1);
      x.convoy(7, 0, 0);
      due("by", x.by(0), mean);
      x.convoy(7, 0, 0);
      due("gun", x.gun(0), mean);
      x.convoy(7, 0, 0);
      due("first", x.first(), mean);
      StormHarbours y = Bounds.laid(HARD + "b1,1,1,100,1;d1,0,9;");
      y.convoy(3, 0, 0);
      due("better", y.better(false), 2);
      due("the quick one is in at 5", y.ran(0, 0, 0), 40);
      x.plan(2, 13, 0);
      x.plan(1, 14, 0);
      x.plan(0, 15, 0);
      x.convoy(7, 0, 0);
      due("shut", x.shut(0), NONE);
    });
    test(26, "all of them make the least SPEED of these", "the slowest of the SORTS that are not in it does not count", () -> {
      StormHarbours x = Bounds.laid(sea);
      due("the quick one", x.convoy(1, 0, 0), -1000 * (lost[0] + 2 * lostIn(24)));
    });
  }

  /** What is lost of a boat at a RISK of 100 in so many HOURS. */
  private static long lostIn(int hours) {
    long lives = 1000000;
    for (int t = 0; t < hours; t++) lives = lives * 900 / 1000;
    return 1000000 - lives;
  }

  private static void first() {
    // ROOM for one, both at the MOUTH at 1; who is left out is lost in 23 HOURS.
    String sea = "h1,9,10,0;b1,9,0,%d,%d;b1,9,0,%d,%d;d0,0,9;d1,0,9;s10,1,9,9,24,0;r9,100;";
    test(27, "at all MOUTHS those go in first of whose SORT W times K is greatest", "one less, as much, one more", () -> {
      // K is 1 of both.
      due("SORT 0 dearer", firstOf(String.format(sea, 11, 1, 10, 1), 0, 0), -100 * lostIn(23));
      due("as dear", firstOf(String.format(sea, 10, 1, 10, 1), 0, 0), -100 * lostIn(23));
      due("SORT 1 dearer", firstOf(String.format(sea, 10, 1, 11, 1), 0, 0), -100 * lostIn(23));
      due("SORT 1 dearer by far", firstOf(String.format(sea, 1, 1, 999, 1), 0, 0), -10 * lostIn(23));
    });
    test(27, "of whose SORT W times K is greatest", "W of 0, K of 0: none is dearer", () -> {
      due("K 0 of a dear one", firstOf(String.format(sea, 10, 1, 999, 0), 0, 0), 0);
      due("0 and 0, SORT 0 first", firstOf(String.format(sea, 0, 9, 999, 0), 0, 0), 0);
      due("W times K, not W", firstOf(String.format(sea, 20, 1, 11, 2), 0, 0), -200 * lostIn(23));
    });
    test(27, "then as told: MEAN of the PLANS", "as dear: who came first, then the SORT", () -> {
      String even = String.format(sea, 10, 1, 5, 2);
      long two = 1000000;
      for (int t = 1; t < 24; t++) two = two * 800 / 1000;
      due("the same HOUR: SORT 0 is in", firstOf(even, 0, 0), -50 * (1000000 - two));
      due("SORT 1 came first: it is in", firstOf(even, 1, 0), -100 * lostIn(23));
    });
    test(27, "at all MOUTHS those go in first", "who is not yet there does not", () -> {
      due("SORT 1, dearer, an HOUR late", firstOf(String.format(sea, 1, 1, 10, 1), 0, 1), -100 * lostIn(23));
    });
    test(27, "at all MOUTHS those go in first", "in the other calls they don't", () -> {
      StormHarbours x = Bounds.laid(String.format(sea, 1, 1, 10, 1));
      x.plan(0, 0, 0);
      x.plan(1, 0, 0);
      long mean = -100 * lostIn(23);
      due("first", x.first(), mean / 10);
      due("mean", x.mean(), mean);
      x.first();
      due("value", x.value(0), mean / 10);
      x.first();
      due("lives", x.lives(0, 0, 0), 1000000);
      x.first();
      due("in", x.in(0, 0), 1);
      x.first();
      due("shut", x.shut(0), 10);
      x.first();
      due("by", x.by(0), mean);
      x.first();
      due("gun", x.gun(0), mean);
      x.first();
      due("convoy", x.convoy(3, 0, 0), mean);
      x.first();
      due("better: SORT 0 gives way", x.better(false), 2);
    });
    test(27, "MEAN of the PLANS", "STORMS that are THOUGHT of alone", () -> {
      StormHarbours x = Bounds.laid(GALE + "g0,0,1;");
      x.plan(0, 5, 0);
      due("both", x.first(), 5 * (5000000 - 19000000) + 5 * 5000000);
      x.sign(0);
      due("the calm", x.first(), 5 * 5000000);
    });
    test(27, "MEAN of the PLANS", "none runs: it is the MEAN", () -> {
      StormHarbours x = Bounds.laid(String.format(sea, 1, 1, 10, 1));
      due("first", x.first(), x.mean());
      due("of the first sea", new StormHarbours().first(), 240000000);
    });
  }

  private static long firstOf(String text, int u, int v) {
    StormHarbours x = Bounds.laid(text);
    x.plan(0, u, 0);
    x.plan(1, v, 0);
    return x.first();
  }

  private static void night() {
    test(28, "NIGHT by z (0 to 9999), a RULE", "z of -1, 0, 9999, 10000", () -> {
      StormHarbours x = new StormHarbours();
      for (int what = 0; what < 2; what++) {
        due("-1", x.night(-1, 0, what), LEAST);
        due("10000", x.night(10000, 0, what), LEAST);
        for (int far : new int[] {Integer.MIN_VALUE, -10000, 65536, Integer.MAX_VALUE}) due("z " + far, x.night(far, 0, what), LEAST);
        due("0", x.night(0, 0, what), what == 0 ? 0 : 24000000);
        due("9999", x.night(9999, 0, what), what == 0 ? 0 : 24000000);
      }
    });
    test(28, "NIGHT by z (0 to 9999), a RULE", "RULES of -1 and 5, whatever is asked", () -> {
      StormHarbours x = new StormHarbours();
      for (int what = 0; what < 2; what++) {
        due("-1", x.night(0, -1, what), LEAST);
        due("5", x.night(0, 5, what), LEAST);
        for (int far : Bounds.FAR) due("RULE " + far, x.night(0, far, what), LEAST);
        for (int rule = 0; rule <= 4; rule++) due("RULE " + rule, x.night(0, rule, what), what == 0 ? 0 : 24000000);
      }
    });
    test(28, "NIGHT: the STORM (what = 0), VALUE by the RULE (1). BAD answers the least long.", "what of -1 and 2", () -> {
      StormHarbours x = new StormHarbours();
      due("-1", x.night(0, 0, -1), LEAST);
      due("2", x.night(0, 0, 2), LEAST);
      for (int far : Bounds.FAR) due("what " + far, x.night(0, 0, far), LEAST);
    });
    test(28, "((x times x) modulo 65521) modulo 10 is below the tenths so far together", "every z: the square is beyond an int", () -> {
      int[] upTo = {1, 3, 6, 10};
      for (int from = 0; from < 10000; from += 400) {
        StormHarbours x = Bounds.laid("h1,1,1,0;b1,1,1,1,1;s1,0,1,0,0,0;s2,0,1,0,0,0;s3,0,1,0,0,0;s4,0,1,0,0,0;");
        for (int z = from; z < from + 400; z++) {
          BigInteger n = BigInteger.valueOf(7919).multiply(BigInteger.valueOf(z)).add(BigInteger.ONE);
          int drawn = n.multiply(n).mod(BigInteger.valueOf(65521)).mod(BigInteger.TEN).intValue();
          int s = 0;
          while (drawn >= upTo[s]) s++;
          due("night(" + z + ")", x.night(z, 0, 0), s);
        }
      }
    });
    test(28, "the STORM is the first by which", "STORMS of 0 tenths, first and last", () -> {
      // The draws of z from 0 on are 1, 3, 3, 0, 5.
      StormHarbours x = Bounds.laid("h1,1,1,0;b1,1,1,1,1;s0,0,1,0,0,0;s1,0,1,0,0,0;s0,0,1,0,0,0;s9,0,1,0,0,0;");
      due("draw 0", x.night(3, 0, 0), 1);
      due("draw 1", x.night(0, 0, 0), 3);
      StormHarbours y = Bounds.laid("h1,1,1,0;b1,1,1,1,1;s3,0,1,0,0,0;s2,0,1,0,0,0;s5,0,1,0,0,0;s0,0,1,0,0,0;");
      due("draw 1 below 3", y.night(0, 0, 0), 0);
      due("draw 3 not below 3", y.night(1, 0, 0), 1);
      due("draw 5 not below 5", y.night(4, 0, 0), 2);
    });
    test(28, "(all STORMS): which; VALUE.", "one that is no more THOUGHT of", () -> {
      StormHarbours x = Bounds.laid("h9,9,10,0;b1,9,1,1,1;d0,0,9;s2,0,1,0,0,0;s8,0,1,0,0,0;g0,0,5;g0,7,6;");
      due("sign", x.sign(0), 2);
      due("draw 1", x.night(0, 1, 0), 0);
      due("runs at 0 by the GLASS", x.night(0, 1, 1), 0);
      x.set(0, 6);
      due("runs at 7 by the GLASS", x.night(0, 1, 1), 7000000);
      due("stays", x.night(0, 4, 1), 24000000);
    });
  }

  private static void keepAndBack() {
    test(29, "what is THOUGHT: 2 at most", "one, two, a third", () -> {
      StormHarbours x = new StormHarbours();
      due("one", x.keep(), 1);
      due("two", x.keep(), 2);
      due("three", x.keep(), FULL);
      due("kept", x.count(5), 2);
      due("back", x.back(), 1);
      due("two again", x.keep(), 2);
      due("three", x.keep(), FULL);
    });
    test(29, "KEPT: how many. FULL.", "what is FULL keeps nothing", () -> {
      StormHarbours x = new StormHarbours();
      x.set(0, 1);
      x.keep();
      x.set(0, 2);
      x.keep();
      x.set(0, 7);
      due("keep", x.keep(), FULL);
      due("X stays", x.now(2), 7);
      x.back();
      due("the last", x.now(2), 2);
      x.back();
      due("the first", x.now(2), 1);
    });
    test(30, "As KEPT last: how many are left. NO.", "none", () -> {
      StormHarbours x = new StormHarbours();
      due("back", x.back(), NO);
      x.keep();
      due("back", x.back(), 0);
      due("back", x.back(), NO);
      due("kept", x.count(5), 0);
    });
    test(30, "KEPT are PLANS, X, Y, the HOUR, what is THOUGHT", "each of them, the least and the greatest", () -> {
      StormHarbours x = Bounds.laid("h1,1,1,0;h1,1,1,0;h1,1,1,0;h1,1,1,0;b1,1,1,1,1;b1,1,1,1,1;b1,1,1,1,1;b1,1,1,1,1;s5,0,1,0,0,0;s5,0,1,0,0,0;g1,23,9;");
      x.plan(3, 23, 3);
      x.set(0, 0);
      x.set(1, 1);
      x.keep();
      for (int t = 0; t < 23; t++) x.sign(0);
      due("sign", x.sign(9), 2);
      x.plan(3, 24, 2);
      x.plan(0, 0, 0);
      x.set(0, 9);
      x.set(1, 32);
      x.keep();
      x.plan(3, 1, 1);
      x.plan(0, 1, 1);
      x.set(0, 5);
      x.set(1, 5);
      due("back", x.back(), 1);
      due("HOUR", x.now(0), 24);
      due("THOUGHT", x.now(1), 2);
      due("X", x.now(2), 9);
      due("Y", x.now(3), 32);
      due("plan", x.plan(3, 5, 0), 242);
      due("plan", x.plan(0, 5, 0), 0);
      due("back", x.back(), 0);
      due("HOUR", x.now(0), 0);
      due("THOUGHT", x.now(1), 3);
      due("X", x.now(2), 0);
      due("Y", x.now(3), 1);
      due("plan", x.plan(3, 5, 0), 233);
      due("plan", x.plan(0, 5, 0), 240);
    });
    test(30, "As KEPT last", "what changes behind a keep does not change what is KEPT", () -> {
      StormHarbours x = new StormHarbours();
      x.plan(0, 3, 0);
      x.keep();
      x.keep();
      due("as kept", x.plan(0, 4, 0), 30);
      x.back();
      due("the last", x.plan(0, 5, 0), 30);
      x.back();
      due("the first", x.plan(0, 6, 0), 30);
    });
    test(30, "nothing KEPT", "behind a lay there is none", () -> {
      StormHarbours x = Bounds.laid(HARD);
      x.keep();
      x.keep();
      x.lay();
      due("back", x.back(), NO);
      due("keep", x.keep(), 1);
    });
    test(30, "KEPT are PLANS, X, Y, the HOUR, what is THOUGHT", "THE TEXT is not", () -> {
      StormHarbours x = Bounds.told("w1;");
      x.keep();
      x.wipe();
      x.back();
      due("bytes", x.count(4), 0);
    });
  }

  private static void count() {
    test(31, "How many: 0 HARBOURS, 1 SORTS, 2 STORMS, 3 boats, 4 bytes of THE TEXT, 5 KEPT. BAD.", "what of -1 and 6", () -> {
      StormHarbours x = new StormHarbours();
      due("-1", x.count(-1), BAD);
      due("6", x.count(6), BAD);
      for (int far : Bounds.FAR) due("what " + far, x.count(far), BAD);
    });
    test(31, "How many: 0 HARBOURS, 1 SORTS, 2 STORMS, 3 boats, 4 bytes of THE TEXT, 5 KEPT.", "the least of each", () -> {
      StormHarbours x = new StormHarbours();
      int[] want = {1, 1, 1, 1, 0, 0};
      for (int what = 0; what < 6; what++) due("count(" + what + ")", x.count(what), want[what]);
    });
    test(31, "How many: 0 HARBOURS, 1 SORTS, 2 STORMS, 3 boats, 4 bytes of THE TEXT, 5 KEPT.", "the greatest of each", () -> {
      StormHarbours x = Bounds.laid(Bounds.many(4, 4, 8, 4));
      int length = x.count(4);
      due("bytes", length, Bounds.many(4, 4, 8, 4).length());
      Bounds.write(x, "x".repeat(500 - length));
      x.keep();
      x.keep();
      int[] want = {4, 4, 4, 32, 500, 2};
      for (int what = 0; what < 6; what++) due("count(" + what + ")", x.count(what), want[what]);
    });
    test(31, "How many: 0 HARBOURS, 1 SORTS, 2 STORMS, 3 boats", "what is LAID, not what is written", () -> {
      StormHarbours x = Bounds.told(Bounds.many(4, 3, 8, 2));
      for (int what = 0; what < 4; what++) due("count(" + what + ")", x.count(what), 1);
      x.lay();
      int[] want = {4, 3, 2, 24};
      for (int what = 0; what < 4; what++) due("count(" + what + ")", x.count(what), want[what]);
    });
  }

  public static void main(String[] args) {
    alone();
    does();
    better();
    gun();
    convoy();
    first();
    night();
    keepAndBack();
    count();
    Bounds.end();
  }
}
