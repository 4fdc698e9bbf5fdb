/** Boundary cases of STRENGTH, GLASS, OPEN, RISK and the way to a MOUTH: promises 6 to 9. */
public final class SeaBounds {
  private static final int NONE = Bounds.NONE, BAD = Bounds.BAD;
  private static final String H = "h1,1,10,0;", B = "b1,1,1,1,1;";
  private static final String SUCH = "BAD: a number is none that is told (HARBOURS, SORTS, STORMS: such as there are).";

  private static void due(String call, long got, long want) { Bounds.due(call, got, want); }

  private static void test(int promise, String quote, String edge, Bounds.Body body) { Bounds.test(promise, quote, edge, body); }

  /** The STRENGTH at each HOUR of a STORM that is told so. */
  private static void strengths(String storm, int... want) {
    StormHarbours x = Bounds.laid(H + B + storm);
    for (int t = 0; t < 24; t++) due("strength of " + storm + " at " + t, x.storm(0, t, 0), t < want.length ? want[t] : 0);
  }

  private static void storm() {
    test(6, "HOURS are 0 to 23.", "-1 and 24", () -> {
      StormHarbours x = Bounds.laid(H + B + "s10,0,9,9,24,0;g0,0,4;g0,23,6;");
      for (int what = 0; what < 2; what++) {
        due("storm at -1", x.storm(0, -1, what), BAD);
        due("storm at 24", x.storm(0, 24, what), BAD);
        for (int far : Bounds.FAR) due("storm at " + far, x.storm(0, far, what), BAD);
      }
      due("strength at 0", x.storm(0, 0, 0), 9);
      due("strength at 23", x.storm(0, 23, 0), 9);
      due("glass at 0", x.storm(0, 0, 1), 4);
      due("glass at 23", x.storm(0, 23, 1), 6);
    });
    test(6, SUCH, "the STORMS, one to four of them", () -> {
      for (int n = 1; n <= 4; n++) {
        StormHarbours x = Bounds.laid(Bounds.many(1, 1, 1, n));
        for (int what = 0; what < 2; what++) {
          due("the last", x.storm(n - 1, 0, what), 0);
          due("one more", x.storm(n, 0, what), BAD);
          due("-1", x.storm(-1, 0, what), BAD);
        }
        for (int far : Bounds.FAR) due("storm " + far, x.storm(far, 0, 0), BAD);
      }
    });
    test(6, "STRENGTH (what = 0), what the GLASS tells (1)", "what is neither", () -> {
      StormHarbours x = new StormHarbours();
      due("what -1", x.storm(0, 0, -1), BAD);
      due("what 2", x.storm(0, 0, 2), BAD);
      for (int far : Bounds.FAR) due("what " + far, x.storm(0, 0, far), BAD);
    });
    test(6, "STRENGTH of a STORM at an HOUR t: 0 ahead of T", "T at 0, 1, 23", () -> {
      strengths("s10,0,9,9,1,0;", 9);
      strengths("s10,1,9,9,1,0;", 0, 9);
      strengths("s10,23,9,9,1,0;", 0, 0, 0, 0, 0, 0, 0, 0, 0, 0, 0, 0, 0, 0, 0, 0, 0, 0, 0, 0, 0, 0, 0, 9);
    });
    test(6, "0 ahead of T and from T and L on", "L of 0, 1, 2", () -> {
      strengths("s10,3,9,9,0,0;");
      strengths("s10,3,9,9,1,0;", 0, 0, 0, 9);
      strengths("s10,3,9,9,2,0;", 0, 0, 0, 9, 9);
    });
    test(6, "0 ahead of T and from T and L on", "T and L at 23, 24 and far above", () -> {
      StormHarbours x = Bounds.laid(H + B + "s2,20,9,9,3,0;s2,20,9,9,4,0;s2,20,9,9,24,0;s4,0,9,9,24,0;");
      due("to 22", x.storm(0, 22, 0), 9);
      due("not at 23", x.storm(0, 23, 0), 0);
      due("to 23", x.storm(1, 23, 0), 9);
      due("beyond 23", x.storm(2, 23, 0), 9);
      due("nor is it so at the next HOUR 0", x.storm(2, 0, 0), 0);
      due("nor ahead of T", x.storm(2, 19, 0), 0);
      due("all 24: at 0", x.storm(3, 0, 0), 9);
      due("all 24: at 23", x.storm(3, 23, 0), 9);
    });
    test(6, "else the lesser of K and G times (t less T, and 1)", "G of 1 and 9, K of 0, 1 and 9", () -> {
      strengths("s10,2,1,9,11,0;", 0, 0, 1, 2, 3, 4, 5, 6, 7, 8, 9, 9, 9);
      strengths("s10,0,4,9,4,0;", 4, 8, 9, 9);
      strengths("s10,0,3,9,4,0;", 3, 6, 9, 9);
      strengths("s10,0,9,1,2,0;", 1, 1);
      strengths("s10,0,9,0,24,0;");
      strengths("s10,0,9,9,2,0;", 9, 9);
      strengths("s10,0,1,0,24,0;");
    });
    test(6, "the GLASS tells V (0 to 9) at HOUR H (0 to 23) (0 without;", "whatever the STRENGTH", () -> {
      StormHarbours x = Bounds.laid(H + B + "s10,5,9,9,3,0;g0,0,9;");
      due("ahead of the storm", x.storm(0, 0, 1), 9);
      due("within it", x.storm(0, 5, 1), 0);
    });
  }

  private static void open() {
    test(7, "A HARBOUR is OPEN in a STORM at an HOUR: STRENGTH below B", "just below B, at B, above", () -> {
      for (int b = 1; b <= 10; b++) {
        StormHarbours x = Bounds.laid("h1,1," + b + ",15;" + B + "s10,1,1,9,24,0;");
        for (int t = 0; t <= 9; t++) due("B " + b + " at strength " + t, x.open(0, 0, t), t < b ? 1 : 0);
      }
    });
    test(7, "or its SIDE is none of E", "each SIDE against each E", () -> {
      for (int e = 0; e <= 15; e++) {
        StormHarbours x = Bounds.laid("h1,1,1," + e + ";" + B + "s1,0,9,9,24,0;s2,0,9,9,24,1;s3,0,9,9,24,2;s4,0,9,9,24,3;");
        for (int s = 0; s < 4; s++) due("E " + e + " from SIDE " + s, x.open(0, s, 0), (e & 1 << s) == 0 ? 1 : 0);
      }
    });
    test(7, "STRENGTH below B, or its SIDE is none of E", "no STRENGTH ahead of the STORM and behind it", () -> {
      StormHarbours x = Bounds.laid("h1,1,1,15;" + B + "s10,3,9,9,2,0;");
      for (int t = 0; t < 24; t++) due("at " + t, x.open(0, 0, t), t == 3 || t == 4 ? 0 : 1);
    });
    test(7, SUCH, "the HARBOURS, one to four of them", () -> {
      for (int n = 1; n <= 4; n++) {
        StormHarbours x = Bounds.laid(Bounds.many(n, 1, 1, 1));
        due("the last", x.open(n - 1, 0, 0), 1);
        due("one more", x.open(n, 0, 0), BAD);
        for (int far : Bounds.FAR) due("HARBOUR " + far, x.open(far, 0, 0), BAD);
      }
    });
    test(7, SUCH, "the STORMS, one to four of them", () -> {
      for (int n = 1; n <= 4; n++) {
        StormHarbours x = Bounds.laid(Bounds.many(1, 1, 1, n));
        due("the last", x.open(0, n - 1, 0), 1);
        due("one more", x.open(0, n, 0), BAD);
        for (int far : Bounds.FAR) due("STORM " + far, x.open(0, far, 0), BAD);
      }
    });
    test(7, "HOURS are 0 to 23.", "-1 and 24", () -> {
      StormHarbours x = new StormHarbours();
      due("0", x.open(0, 0, 0), 1);
      due("23", x.open(0, 0, 23), 1);
      due("-1", x.open(0, 0, -1), BAD);
      due("24", x.open(0, 0, 24), BAD);
      for (int far : Bounds.FAR) due("HOUR " + far, x.open(0, 0, far), BAD);
    });
  }

  private static void risk() {
    test(8, "RISK of a SORT: Q of the STRENGTH times K (999 at most) of a thousand.", "just below 999, at it, above", () -> {
      int[][] rows = {{200, 4, 800}, {124, 8, 992}, {110, 9, 990}, {111, 9, 999}, {112, 9, 999}, {125, 8, 999}, {200, 5, 999}, {199, 5, 995}, {200, 9, 999}};
      for (int[] row : rows) {
        StormHarbours x = Bounds.laid("h1,1,1,0;b1,1,1,1," + row[1] + ";s10,0,1,1,24,0;r1," + row[0] + ";");
        due("Q " + row[0] + " times K " + row[1], x.risk(0, 0, 0), row[2]);
      }
    });
    test(8, "Q of the STRENGTH times K", "K of 0, Q of 0, no STRENGTH", () -> {
      StormHarbours x = Bounds.laid("h1,1,1,0;b1,1,1,1,0;b1,1,1,1,1;s10,1,1,2,2,0;r1,200;r2,0;");
      due("K 0", x.risk(0, 0, 1), 0);
      due("ahead of it", x.risk(1, 0, 0), 0);
      due("strength 1", x.risk(1, 0, 1), 200);
      due("Q 0", x.risk(1, 0, 2), 0);
      due("behind it", x.risk(1, 0, 3), 0);
    });
    test(8, "at strength X (1 to 9) Q of a thousand are lost an HOUR", "each STRENGTH has its own", () -> {
      StringBuilder text = new StringBuilder("h1,1,1,0;b1,1,1,1,1;s10,0,1,9,24,0;");
      for (int q = 1; q <= 9; q++) text.append("r").append(q).append(",").append(11 * q).append(";");
      StormHarbours x = Bounds.laid(text.toString());
      for (int t = 0; t < 24; t++) due("at " + t, x.risk(0, 0, t), 11 * Math.min(9, t + 1));
    });
    test(8, SUCH, "the SORTS, one to four of them", () -> {
      for (int n = 1; n <= 4; n++) {
        StormHarbours x = Bounds.laid(Bounds.many(1, n, 8, 1));
        due("the last", x.risk(n - 1, 0, 0), 0);
        due("one more", x.risk(n, 0, 0), BAD);
        for (int far : Bounds.FAR) due("SORT " + far, x.risk(far, 0, 0), BAD);
      }
    });
    test(8, SUCH, "the STORMS, one to four of them", () -> {
      for (int n = 1; n <= 4; n++) {
        StormHarbours x = Bounds.laid(Bounds.many(1, 1, 1, n));
        due("the last", x.risk(0, n - 1, 0), 0);
        due("one more", x.risk(0, n, 0), BAD);
        for (int far : Bounds.FAR) due("STORM " + far, x.risk(0, far, 0), BAD);
      }
    });
    test(8, "HOURS are 0 to 23.", "-1 and 24", () -> {
      StormHarbours x = new StormHarbours();
      due("23", x.risk(0, 0, 23), 0);
      due("-1", x.risk(0, 0, -1), BAD);
      due("24", x.risk(0, 0, 24), BAD);
      for (int far : Bounds.FAR) due("HOUR " + far, x.risk(0, 0, far), BAD);
    });
  }

  /** The HOUR at which a boat of a SPEED is at the MOUTH, so many miles off, in a STORM. */
  private static int reached(int speed, int miles, String storm, int u) {
    return Bounds.laid("h1,1,1,0;b1," + speed + ",1,1,1;" + "d0,0," + miles + ";" + storm).reach(0, 0, 0, u);
  }

  private static void reach() {
    String calm = "s10,0,1,0,0,0;";
    test(9, "when it has made as many as it lies off or more", "one less, as many, one more", () -> {
      due("5 of 5", reached(5, 5, calm, 0), 1);
      due("5 of 4", reached(5, 4, calm, 0), 1);
      due("5 of 6", reached(5, 6, calm, 0), 2);
      due("10 of 10", reached(5, 10, calm, 0), 2);
      due("10 of 11", reached(5, 11, calm, 0), 3);
    });
    test(9, "it is at the MOUTH from the next HOUR on", "a way of one HOUR", () -> {
      due("from 0", reached(9, 1, calm, 0), 1);
      due("from 22", reached(9, 1, calm, 22), 23);
    });
    test(9, "(24 and above: not in time, NONE)", "23, 24, above", () -> {
      due("from 23 on at 24", reached(9, 1, calm, 23), NONE);
      due("at 23", reached(1, 23, calm, 0), 23);
      due("at 24", reached(1, 24, calm, 0), NONE);
      due("at 25", reached(1, 25, calm, 0), NONE);
      due("at 99", reached(1, 99, calm, 0), NONE);
      due("99 miles by 9 from 12", reached(9, 99, calm, 12), 23);
      due("99 miles by 9 from 13", reached(9, 99, calm, 13), NONE);
      due("99 miles by 9 from 23", reached(9, 99, calm, 23), NONE);
    });
    test(9, "makes SPEED less (STRENGTH by X, cut) miles, 1 at least", "0 and less are 1", () -> {
      due("3 less 3", reached(3, 7, "s10,0,9,9,24,0;", 0), 7);
      due("2 less 3", reached(2, 7, "s10,0,9,9,24,0;", 0), 7);
      due("1 less 9", reached(1, 7, "s10,0,9,9,24,0;w1;", 0), 7);
      due("9 less 9", reached(9, 7, "s10,0,9,9,24,0;w1;", 0), 7);
      due("4 less 3", reached(4, 7, "s10,0,9,9,24,0;", 0), 7);
      due("5 less 3", reached(5, 7, "s10,0,9,9,24,0;", 0), 4);
    });
    test(9, "makes SPEED less (STRENGTH by X, cut) miles", "just below X, at it, twice less one", () -> {
      for (int strength = 0; strength <= 9; strength++) {
        for (int x = 1; x <= 9; x++) {
          int makes = Math.max(1, 9 - strength / x);
          String storm = "s10,0,9," + strength + ",24,0;w" + x + ";";
          due("strength " + strength + " by " + x, reached(9, makes, storm, 0), 1);
          due("and a mile, strength " + strength + " by " + x, reached(9, makes + 1, storm, 0), 2);
        }
      }
    });
    test(9, "one under way (from u on)", "the STRENGTH of the HOUR u counts, that of the one ahead does not", () -> {
      String storm = "s10,5,9,9,1,0;";
      due("from 4: 9, 6", reached(9, 15, storm, 4), 6);
      due("from 5: 6, 9", reached(9, 15, storm, 5), 7);
      due("from 5: 6, and 6 of 7", reached(9, 6, storm, 5), 6);
      due("from 6: 9", reached(9, 9, storm, 6), 7);
    });
    test(9, "that ran at u (0 to 23)", "-1 and 24", () -> {
      StormHarbours x = new StormHarbours();
      due("0", x.reach(0, 0, 0, 0), 4);
      due("23", x.reach(0, 0, 0, 23), NONE);
      due("-1", x.reach(0, 0, 0, -1), BAD);
      due("24", x.reach(0, 0, 0, 24), BAD);
      for (int far : Bounds.FAR) due("u " + far, x.reach(0, 0, 0, far), BAD);
    });
    test(9, SUCH, "SORTS, HARBOURS and STORMS, one to four of each", () -> {
      for (int n = 1; n <= 4; n++) {
        StormHarbours x = Bounds.laid(Bounds.many(n, n, 1, n));
        due("the last", x.reach(n - 1, n - 1, n - 1, 0), 4);
        due("SORT", x.reach(n, 0, 0, 0), BAD);
        due("HARBOUR", x.reach(0, n, 0, 0), BAD);
        due("STORM", x.reach(0, 0, n, 0), BAD);
        for (int far : Bounds.FAR) {
          due("SORT " + far, x.reach(far, 0, 0, 0), BAD);
          due("HARBOUR " + far, x.reach(0, far, 0, 0), BAD);
          due("STORM " + far, x.reach(0, 0, far, 0), BAD);
        }
      }
    });
    test(9, "Of several the first", "BAD ahead of NONE", () -> {
      due("late, and no such HARBOUR", new StormHarbours().reach(0, 1, 0, 23), BAD);
      due("late, and no such STORM", new StormHarbours().reach(0, 0, 1, 23), BAD);
    });
  }

  public static void main(String[] args) {
    storm();
    open();
    risk();
    reach();
    Bounds.end();
  }
}
