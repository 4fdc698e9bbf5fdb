/** Each promise of the document by answers that were worked out by hand. */
public final class PromiseTests {
  private static final int BAD = -1, NO = -2, FULL = -3, NONE = -4;
  private static final long LEAST = Long.MIN_VALUE;

  /**
   * STORM 0 has the strengths 2, 4, 4 at the HOURS 2, 3, 4; STORM 1 has none. HARBOUR 0 is shut at
   * 3 and 4 in STORM 0. Of a boat of SORT 0 that stays outside live 1000000 till 2, then 900000,
   * 720000, 576000; of one of SORT 1 800000, 480000, 288000.
   */
  private static final String BAY = "h2,1,3,1;h9,9,10,0;b3,5,2,10,1;b1,4,0,100,2;d0,0,10;d0,1,30;d1,0,10;"
      + "s5,2,2,4,3,0;s5,0,1,0,0,1;g0,1,5;r2,100;r4,200;w2;";

  /** From HOUR 1 on HARBOUR 0 is shut in STORM 0, which the GLASS tells at HOUR 0. */
  private static final String REEF = "h9,9,1,1;h9,9,10,0;b1,9,1,100,1;d0,0,5;d0,1,9;s6,1,9,9,24,0;s4,0,1,0,0,1;g0,0,5;r9,100;";

  /** ROOM for one boat, and two that want it. */
  private static final String COVE = "h1,9,10,0;b1,9,0,10,1;b1,9,0,900,1;d0,0,9;d1,0,9;s10,1,9,9,24,0;r9,100;";

  private static int right, wrong;
  private static String promise = "";

  private static void due(String call, long got, long want) {
    if (got == want) {
      right++;
    } else {
      wrong++;
      System.out.println(promise + ": " + call + " answered " + got + ", due is " + want);
    }
  }

  /** Eight bytes a call, as an object is good for 512 calls alone. */
  private static void tell(StormHarbours x, String text) {
    Bounds.write(x, text);
  }

  private static StormHarbours laid(String text) {
    StormHarbours x = new StormHarbours();
    tell(x, text);
    if (x.lay() < 1) due("lay of " + text, 0, 1);
    return x;
  }

  private static void newObject() {
    StormHarbours x = new StormHarbours();
    for (int what = 0; what < 4; what++) due("count", x.count(what), 1);
    due("no bytes", x.count(4), 0);
    due("none kept", x.count(5), 0);
    due("speed 5 over 20 miles", x.reach(0, 0, 0, 3), 7);
    due("plan", x.plan(0, 24, 0), 240);
    due("fish 1", x.value(0), 24000000);
    for (int t = 0; t < 24; t++) {
      due("no strength", x.storm(0, t, 0), 0);
      due("no glass", x.storm(0, t, 1), 0);
      due("open", x.open(0, 0, t), 1);
      due("no risk", x.risk(0, 0, t), 0);
    }
    due("hour", x.now(0), 0);
    due("thought", x.now(1), 1);
    due("X", x.now(2), 3);
    due("Y", x.now(3), 4);
    due("text is empty", x.lay(), NO);
    due("and the first sea stays", x.count(1), 1);
    due("BAD", StormHarbours.BAD, BAD);
    due("NO", StormHarbours.NO, NO);
    due("FULL", StormHarbours.FULL, FULL);
    due("NONE", StormHarbours.NONE, NONE);
  }

  private static void write() {
    StormHarbours x = new StormHarbours();
    due("n 0", x.write(0, 'w'), BAD);
    due("n 9", x.write(9, 'w'), BAD);
    due("n least", x.write(Integer.MIN_VALUE, 'w'), BAD);
    due("nothing came", x.count(4), 0);
    due("the lowest three, the highest first", x.write(3, 0x1122334400000000L + ('w' << 16) + ('4' << 8) + ';'), 3);
    due("so it is w4;", x.fault(), NONE);
    due("eight", x.write(8, 0x72312c3230303b77L), 11);
    due("w stands alone", x.fault(), 10);
    due("two", x.write(2, ('5' << 8) + ';'), 13);
    due("whole", x.fault(), NONE);
    due("a byte above 127", x.write(1, -1), 14);
    due("is no item", x.fault(), 13);
    x.wipe();
    for (int k = 1; k <= 62; k++) due("eight more", x.write(8, k), 8 * k);
    due("501", x.write(5, 0), FULL);
    due("BAD is first", x.write(9, 0), BAD);
    due("500", x.write(4, 0), 500);
    due("no more", x.write(1, 0), FULL);
    due("still 500", x.count(4), 500);
  }

  private static void wipe() {
    StormHarbours x = new StormHarbours();
    due("empty", x.wipe(), 0);
    tell(x, "xyz");
    due("three", x.wipe(), 3);
    due("empty again", x.wipe(), 0);
    due("no fault", x.fault(), NONE);
    StormHarbours y = laid(BAY);
    y.wipe();
    due("the sea stays", y.count(1), 2);
  }

  private static void faultOf(String text, int want) {
    StormHarbours x = new StormHarbours();
    tell(x, text);
    due("fault of " + text, x.fault(), want);
    due("length of " + text, x.wipe(), text.length());
  }

  private static final String H = "h1,1,1,0;", B = "b1,1,1,1,1;", S = "s1,0,1,0,0,0;";

  private static void fault() {
    String[] sound = {"", H, "h99,9,10,15;", "h001,01,1,000;", B, "b8,9,99,999,9;", "b1,1,0,0,0;", S, "s10,23,9,9,24,3;",
        "s0,0,1,0,0,0;", H + B + "d0,0,1;", H + B + "d0,0,99;", S + "g0,0,0;", S + "g0,23,9;", "r1,0;", "r9,200;", "w1;", "w9;",
        H + H + H + H, B + B + B + B, S + S + S + S, "s10,0,1,0,0,0;s10,0,1,0,0,0;", B + H + B + "d1,0,5;", "w1;w2;r1,1;r1,2;"};
    for (String text : sound) faultOf(text, NONE);
    String[] unsound = {"h0,1,1,0;", "h100,1,1,0;", "h1,0,1,0;", "h1,10,1,0;", "h1,1,0,0;", "h1,1,11,0;", "h1,1,1,16;",
        "b0,1,1,1,1;", "b9,1,1,1,1;", "b1,0,1,1,1;", "b1,10,1,1,1;", "b1,1,100,1,1;", "b1,1,1,1000,1;", "b1,1,1,1,10;",
        "s11,0,1,0,0,0;", "s1,24,1,0,0,0;", "s1,0,0,0,0,0;", "s1,0,10,0,0,0;", "s1,0,1,10,0,0;", "s1,0,1,0,25,0;", "s1,0,1,0,0,4;",
        "r0,1;", "r10,1;", "r1,201;", "w0;", "w10;", "d0,0,5;", "g0,0,1;",
        "h", "h;", "h1", "h1,1,1,0", "h1,1,1;", "h1,1,1,0,0;", "h1,1,1,0,;", "h1,,1,0;", "h,1,1,1,0;", "h1;1;1;0;", "h1 ,1,1,0;",
        "h0001,1,1,0;", "h-1,1,1,0;", "h+1,1,1,0;", "H1,1,1,0;", "1,1,1,0;", ";", ",", " ", "x1;", "w;", "w1", "w1,", "w1,1;", "w\u00b2;"};
    for (String text : unsound) {
      faultOf(text, 0);
      faultOf("w1;" + text, 3);
      faultOf("w1;" + text + "z", 3);
    }
    faultOf(H + H + H + H + H, 36);
    faultOf(B + B + B + B + B, 44);
    faultOf(S + S + S + S + S, 52);
    faultOf(H + B + "d0,0,0;", 20);
    faultOf(H + B + "d0,0,100;", 20);
    faultOf(H + B + "d1,0,5;", 20);
    faultOf(H + B + "d0,1,5;", 20);
    faultOf(H + "d0,0,5;" + B, 9);
    faultOf(S + "g1,0,0;", 13);
    faultOf(S + "g0,24,0;", 13);
    faultOf(S + "g0,0,10;", 13);
    faultOf("g0,0,0;" + S, 0);
    faultOf(H + "\n" + B, 9);
    StormHarbours x = new StormHarbours();
    tell(x, "w12;");
    x.wipe();
    tell(x, "w1");
    due("what was wiped is not read", x.fault(), 0);
    x.wipe();
    tell(x, "w3;".repeat(166) + "w1");
    due("500 bytes, cut off", x.fault(), 498);
    x.wipe();
    tell(x, "w3;".repeat(165) + "r1,1;");
    due("500 bytes, whole", x.fault(), NONE);
    due("500 bytes", x.wipe(), 500);
  }

  private static void lay() {
    String whole = H + B + "s10,0,1,0,0,0;";
    String[] not = {"", H + B, H + "s10,0,1,0,0,0;", B + "s10,0,1,0,0,0;", H + B + "s9,0,1,0,0,0;",
        H + B + "s9,0,1,0,0,0;s2,0,1,0,0,0;", whole + "x", whole + H + H + H + H};
    for (String text : not) {
      StormHarbours x = laid(BAY);
      x.plan(1, 7, 1);
      x.set(0, 8);
      x.set(1, 9);
      x.keep();
      x.sign(0);
      x.wipe();
      tell(x, text);
      due("lay of " + text, x.lay(), NO);
      due("sea stays", x.count(1) * 10 + x.count(2), 22);
      due("plan stays", x.plan(1, 7, 1), 71);
      due("X stays", x.now(2), 8);
      due("Y stays", x.now(3), 9);
      due("hour stays", x.now(0), 1);
      due("kept stays", x.count(5), 1);
    }
    StormHarbours x = laid(BAY);
    x.plan(0, 7, 1);
    x.set(0, 8);
    x.set(1, 9);
    x.keep();
    x.sign(0);
    x.sign(5);
    due("lay again", x.lay(), 2);
    due("plan as at first", x.plan(0, 24, 0), 240);
    due("X as at first", x.now(2), 3);
    due("Y as at first", x.now(3), 4);
    due("hour as at first", x.now(0), 0);
    due("thought as at first", x.now(1), 3);
    due("nothing kept", x.back(), NO);
    due("text stays", x.count(4), BAY.length());
    x.wipe();
    tell(x, H + B + "s3,0,1,0,0,0;s0,0,1,0,0,0;s7,0,1,0,0,0;");
    due("tenths of several", x.lay(), 1);
    due("thought of all", x.now(1), 7);
    due("20 miles without d", x.reach(0, 0, 0, 0), 20);
    due("no glass of the sea before", x.storm(0, 1, 1), 0);
    tell(x, "d0,0,9;d0,0,3;g1,4,5;g1,4,6;");
    x.lay();
    due("the last miles", x.reach(0, 0, 0, 0), 3);
    due("the last glass", x.storm(1, 4, 1), 6);
    StormHarbours y = laid("h1,1,1,0;b1,9,1,1,1;s10,0,9,9,24,0;r9,5;r9,7;");
    due("the last loss", y.risk(0, 0, 0), 7);
    due("slower by 9 / 3 without w", y.reach(0, 0, 0, 0), 4);
    tell(y, "w9;w2;");
    y.lay();
    due("slower by 9 / 2", y.reach(0, 0, 0, 0), 4);
    tell(y, "w1;");
    y.lay();
    due("1 at least", y.reach(0, 0, 0, 0), 20);
    StormHarbours fresh = laid(HARD);
    fresh.wipe();
    tell(fresh, "h9,9,10,0;b1,9,1,100,1;s10,5,9,9,24,0;");
    due("lay", fresh.lay(), 1);
    due("no loss of the sea before", fresh.risk(0, 0, 9), 0);
    due("nor its miles", fresh.reach(0, 0, 0, 0), 3);
    StormHarbours z = laid("h1,1,1,0;h1,1,1,0;h1,1,1,0;h1,1,1,0;" + B + B + B + B + S + S + S + "s7,0,1,0,0,0;");
    due("four", z.count(0) * 100 + z.count(1) * 10 + z.count(2), 444);
  }

  private static void storm() {
    StormHarbours x = laid(BAY);
    int[] strengths = {0, 0, 2, 4, 4, 0, 0};
    for (int t = 0; t < strengths.length; t++) {
      due("strength at " + t, x.storm(0, t, 0), strengths[t]);
      due("calm", x.storm(1, t, 0), 0);
      due("glass at " + t, x.storm(0, t, 1), t == 1 ? 5 : 0);
    }
    StormHarbours y = laid("h1,1,1,0;" + B + "s10,20,3,9,24,0;");
    int[] late = {0, 3, 6, 9, 9};
    for (int t = 19; t < 24; t++) due("late", y.storm(0, t, 0), late[t - 19]);
    due("s", x.storm(-1, 0, 0), BAD);
    due("s", x.storm(2, 0, 0), BAD);
    due("t", x.storm(0, -1, 0), BAD);
    due("t", x.storm(0, 24, 1), BAD);
    due("what", x.storm(0, 0, 2), BAD);
    due("what", x.storm(0, 0, -1), BAD);
  }

  private static void open() {
    StormHarbours x = laid(BAY);
    for (int t = 0; t < 24; t++) {
      due("bar 3 at " + t, x.open(0, 0, t), t == 3 || t == 4 ? 0 : 1);
      due("other side at " + t, x.open(0, 1, t), 1);
      due("bar 10 at " + t, x.open(1, 0, t), 1);
    }
    StormHarbours y = laid("h1,1,4,4;h1,1,4,11;h1,1,5,15;" + B + "s10,0,4,4,24,2;");
    due("strength is B, the side is one", y.open(0, 0, 0), 0);
    due("the side is none", y.open(1, 0, 0), 1);
    due("strength is below B", y.open(2, 0, 0), 1);
    due("j", x.open(2, 0, 0), BAD);
    due("j", x.open(-1, 0, 0), BAD);
    due("s", x.open(0, 2, 0), BAD);
    due("t", x.open(0, 0, 24), BAD);
  }

  private static void risk() {
    StormHarbours x = laid(BAY);
    int[] one = {0, 0, 100, 200, 200, 0};
    for (int t = 0; t < 6; t++) {
      due("K 1 at " + t, x.risk(0, 0, t), one[t]);
      due("K 2 at " + t, x.risk(1, 0, t), 2 * one[t]);
    }
    StormHarbours y = laid("h1,1,1,0;b1,1,1,1,9;b1,1,1,1,0;b1,1,1,1,5;s10,0,5,5,9,0;r5,111;r4,200;");
    due("999", y.risk(0, 0, 0), 999);
    due("0", y.risk(1, 0, 0), 0);
    due("555", y.risk(2, 0, 0), 555);
    tell(y, "r5,200;");
    y.lay();
    due("999 at most", y.risk(0, 0, 0), 999);
    due("i", x.risk(2, 0, 0), BAD);
    due("i", x.risk(-1, 0, 0), BAD);
    due("s", x.risk(0, -1, 0), BAD);
    due("t", x.risk(0, 0, 24), BAD);
  }

  private static void reach() {
    StormHarbours x = laid(BAY);
    due("5, 5", x.reach(0, 0, 0, 0), 2);
    due("5, 4, 3", x.reach(0, 0, 0, 1), 4);
    due("3, 2, 2, 4", x.reach(1, 0, 0, 2), 6);
    due("calm", x.reach(0, 1, 1, 4), 10);
    due("23", x.reach(0, 0, 1, 21), 23);
    due("24", x.reach(0, 0, 1, 22), NONE);
    due("25", x.reach(0, 0, 1, 23), NONE);
    due("i", x.reach(2, 0, 0, 0), BAD);
    due("j", x.reach(0, 2, 0, 0), BAD);
    due("s", x.reach(0, 0, 2, 0), BAD);
    due("u", x.reach(0, 0, 0, 24), BAD);
    due("u", x.reach(0, 0, 0, -1), BAD);
  }

  private static void plan() {
    StormHarbours x = laid(BAY);
    due("as at first", x.plan(0, 5, 1), 240);
    due("as told", x.plan(0, 24, 1), 51);
    due("never has a harbour, too", x.plan(0, 0, 0), 241);
    due("the other sort", x.plan(1, 0, 0), 240);
    due("i", x.plan(2, 0, 0), BAD);
    due("u", x.plan(0, 25, 0), BAD);
    due("u", x.plan(0, -1, 0), BAD);
    due("j", x.plan(0, 5, 2), BAD);
    due("j", x.plan(0, 5, -1), BAD);
    due("nothing changed", x.plan(0, 0, 0), 0);
  }

  private static void value() {
    StormHarbours x = laid(BAY);
    // Fish 2 * (3 * 1000000 + 900000 + 720000 + 19 * 576000) a boat, 424000 lost at 10; 712000 at 100.
    due("storm", x.value(0), 3 * 31128000 - 3 * 4240000 - 71200000);
    due("calm", x.value(1), 144000000);
    x.plan(0, 0, 0);
    due("two boats kept waiting", x.value(0), -2 * 4240000 - 71200000);
    due("calm, no fish", x.value(1), 0);
    x.plan(0, 4, 1);
    due("fish of what lives", x.value(0), 3 * 7800000 - 3 * 4240000 - 71200000);
    due("s", x.value(2), LEAST);
    due("s", x.value(-1), LEAST);
  }

  private static void in() {
    StormHarbours x = laid(BAY);
    due("none runs", x.in(0, 0), 0);
    x.plan(0, 0, 0);
    due("room 2", x.in(0, 0), 2);
    due("the other sort", x.in(0, 1), 0);
    x.plan(0, 21, 0);
    due("at 23 one of the mouth", x.in(1, 0), 1);
    x.plan(0, 22, 0);
    due("at 24", x.in(1, 0), 0);
    x.plan(0, 0, 1);
    due("wide", x.in(0, 0), 3);
    x.plan(0, 0, 0);
    x.plan(1, 0, 0);
    due("the sort that came later", x.in(0, 1), 0);
    x.plan(0, 1, 0);
    due("the sort that came ahead", x.in(0, 1), 1);
    due("and one of the others", x.in(0, 0), 1);
    due("s", x.in(2, 0), BAD);
    due("i", x.in(0, 2), BAD);
  }

  private static void lives() {
    StormHarbours x = laid(BAY);
    due("on the bank", x.lives(0, 0, 2), 576000);
    due("K 2", x.lives(0, 1, 0), 288000);
    x.plan(0, 0, 0);
    due("in at 2", x.lives(0, 0, 0), 1000000);
    due("in at 5", x.lives(0, 0, 1), 576000);
    due("calm", x.lives(1, 0, 2), 1000000);
    StormHarbours y = laid("h1,1,10,0;b1,1,1,1,1;s10,0,9,9,24,0;r9,1;");
    int lives = 1000000;
    for (int t = 0; t < 24; t++) lives = lives * 999 / 1000;
    due("cut each hour", y.lives(0, 0, 0), lives);
    due("s", x.lives(2, 0, 0), BAD);
    due("i", x.lives(0, 2, 0), BAD);
    due("n", x.lives(0, 0, 3), BAD);
    due("n", x.lives(0, 1, 1), BAD);
    due("n", x.lives(0, 0, -1), BAD);
  }

  private static void mean() {
    StormHarbours x = laid(BAY);
    due("both storms", x.mean(), 5 * 9464000L + 5 * 144000000L);
    x.sign(0);
    x.sign(0);
    due("the calm alone", x.mean(), 5 * 144000000L);
    due("tenths", laid(REEF.replace("s6", "s0").replace("s4", "s10")).mean(), 240000000);
  }

  private static void shut() {
    StormHarbours x = laid(BAY);
    due("none runs", x.shut(0), NONE);
    x.plan(0, 0, 0);
    due("the third", x.shut(0), 2);
    x.plan(0, 0, 1);
    due("all in", x.shut(0), NONE);
    x.plan(1, 23, 1);
    due("too late", x.shut(1), 10);
    x.plan(0, 22, 0);
    due("the lowest sort", x.shut(1), 0);
    due("s", x.shut(2), BAD);
    due("s", x.shut(-1), BAD);
  }

  private static void sign() {
    StormHarbours x = laid(BAY);
    due("v", x.sign(-1), BAD);
    due("v", x.sign(10), BAD);
    due("none tells 9", x.sign(9), NO);
    due("nothing changed", x.now(0) * 10 + x.now(1), 3);
    due("both", x.sign(0), 3);
    due("none tells 4", x.sign(4), NO);
    due("the storm", x.sign(5), 1);
    due("hour", x.now(0), 2);
    for (int t = 2; t < 24; t++) due("on", x.sign(0), 1);
    due("24", x.sign(0), NO);
    due("BAD is first", x.sign(10), BAD);
    due("still 24", x.now(0), 24);
  }

  private static void now() {
    StormHarbours x = laid(BAY);
    x.sign(0);
    x.sign(0);
    x.set(0, 7);
    x.set(1, 8);
    due("hour", x.now(0), 2);
    due("thought", x.now(1), 2);
    due("X", x.now(2), 7);
    due("Y", x.now(3), 8);
    due("what", x.now(4), BAD);
    due("what", x.now(-1), BAD);
  }

  private static void set() {
    StormHarbours x = new StormHarbours();
    due("X", x.set(0, 0), 3);
    due("X", x.set(0, 9), 0);
    due("X 10", x.set(0, 10), BAD);
    due("X -1", x.set(0, -1), BAD);
    due("X stays", x.now(2), 9);
    due("Y", x.set(1, 1), 4);
    due("Y", x.set(1, 32), 1);
    due("Y 0", x.set(1, 0), BAD);
    due("Y 33", x.set(1, 33), BAD);
    due("Y stays", x.now(3), 32);
    due("what", x.set(2, 5), BAD);
    due("what", x.set(-1, 5), BAD);
  }

  private static void by() {
    StormHarbours x = laid(BAY);
    due("told", x.by(0), x.mean());
    due("stay", x.by(4), 767320000);
    x.plan(0, 0, 1);
    // SORT 0 is in at 9 in the storm, 1272000 lost at 10; at 6 in the calm.
    due("told", x.by(0), 5 * (-12720000 - 71200000));
    due("stay does not ask plans", x.by(4), 767320000);
    // Both run at 1 to HARBOUR 0 in the storm; one boat of SORT 0 at 5, one at 6, SORT 1 comes at 5.
    due("glass", x.by(1), 5 * (3 * 2000000 - 3 * 4240000 - 71200000) + 5 * 144000000L);
    x.set(0, 6);
    due("glass below X", x.by(1), 767320000);
    x.set(0, 3);
    x.sign(0);
    x.sign(0);
    due("the calm alone", x.by(1), 720000000);
    due("rule", x.by(5), LEAST);
    due("rule", x.by(-1), LEAST);
  }

  private static void ran() {
    StormHarbours x = laid(BAY);
    x.plan(0, 7, 1);
    x.plan(1, 24, 1);
    due("told", x.ran(0, 0, 0), 71);
    due("told never", x.ran(0, 0, 1), 240);
    due("glass", x.ran(1, 0, 0), 10);
    due("glass", x.ran(1, 0, 1), 10);
    due("calm", x.ran(1, 1, 0), 240);
    due("herd leads", x.ran(2, 0, 0), 10);
    due("three boats are fewer than 4", x.ran(2, 0, 1), 240);
    x.set(1, 3);
    due("the hour behind", x.ran(2, 0, 1), 20);
    x.set(0, 5);
    due("X is told", x.ran(1, 0, 0), 10);
    x.set(0, 6);
    due("below X", x.ran(1, 0, 0), 240);
    x.set(0, 0);
    due("X 0", x.ran(1, 1, 1), 0);
    due("stay", x.ran(4, 0, 0), 240);
    StormHarbours y = laid(REEF);
    due("the nearest", y.ran(1, 0, 0), 0);
    due("the one that is open by 10 tenths", y.ran(3, 0, 0), 1);
    y.sign(0);
    due("thought of the calm alone: the nearest", y.ran(3, 0, 0), 0);
    StormHarbours far = laid("h9,9,10,0;h9,9,10,0;h9,9,10,0;b1,9,1,1,1;d0,0,30;d0,1,9;d0,2,9;s10,0,1,0,0,0;g0,4,3;");
    due("the nearest, of two the lower", far.ran(1, 0, 0), 41);
    due("all are open: the same", far.ran(3, 0, 0), 41);
    StormHarbours z = laid(REEF.replace("d0,0,5", "d0,0,9"));
    due("as near: the lowest", z.ran(1, 0, 0), 0);
    due("rule", x.ran(5, 0, 0), BAD);
    due("rule", x.ran(-1, 0, 0), BAD);
    due("s", x.ran(0, 2, 0), BAD);
    due("i", x.ran(0, 0, 2), BAD);
  }

  private static void alone() {
    due("fishes on", new StormHarbours().alone(0), 240000000);
    StormHarbours x = laid(REEF);
    due("runs in the storm, fishes in the calm", x.alone(0), 96000000);
    x.sign(0);
    due("all storms, whatever is thought", x.alone(0), 96000000);
    due("the glass tells nothing: runs", laid(REEF.replace("g0,0,5;", "")).alone(0), 0);
    due("room and mouth are not asked", laid(COVE).alone(1), 0);
    due("i", x.alone(1), LEAST);
    due("i", x.alone(-1), LEAST);
  }

  private static void does() {
    StormHarbours x = laid(REEF);
    due("runs to 1", x.does(0, 0, 1), 2);
    due("stays", x.does(0, 0, 2), 0);
    due("runs for both", x.does(0, 0, 3), 2);
    due("as good: stays", laid(REEF.replace("b1,9,1", "b1,9,0")).does(0, 0, 2), 0);
    due("as good: the lowest", laid(REEF.replace("h9,9,1,1", "h9,9,10,1")).does(0, 0, 1), 1);
    due("i", x.does(1, 0, 1), BAD);
    due("t", x.does(0, 24, 1), BAD);
    due("t", x.does(0, -1, 1), BAD);
    due("set", x.does(0, 0, 0), BAD);
    due("set", x.does(0, 0, 4), BAD);
    due("set", x.does(0, 0, -1), BAD);
  }

  private static void better() {
    StormHarbours x = laid(REEF);
    due("one that changes, one that does not", x.better(false), 2);
    due("plan", x.ran(0, 0, 0), 1);
    due("mean", x.mean(), 0);
    due("no more", x.better(false), 1);
    StormHarbours y = laid(COVE);
    y.plan(1, 0, 0);
    due("together: the dear one stays in", y.better(false), 1);
    due("in", y.in(0, 1), 1);
    due("each for itself: the lower sort pushes in", y.better(true), 2);
    due("in", y.in(0, 0) * 10 + y.in(0, 1), 10);
    due("the other gains nothing elsewhere", y.plan(1, 0, 0), 0);
    StormHarbours even = laid("h1,1,10,0;h1,1,10,0;b1,9,0,10,1;s10,0,1,0,0,0;");
    even.plan(0, 3, 1);
    due("none is greater", even.better(false), 1);
    due("so it stays", even.plan(0, 3, 1), 31);
    StormHarbours later = laid("h1,1,10,0;h1,1,10,0;b1,9,0,10,1;d0,0,9;d0,1,9;s10,5,9,9,24,0;r9,9;");
    due("greater", later.better(true), 2);
    due("of several the first", later.plan(0, 0, 0), 0);
    StormHarbours restless = laid("h3,1,2,2;b4,1,6,55,4;b1,4,3,69,4;d0,0,1;d1,0,16;s10,6,9,9,18,0;r9,86;r5,79;r3,5;");
    due("never at rest", restless.better(true), NONE);
    StormHarbours signed = laid(REEF);
    signed.plan(0, 0, 0);
    signed.sign(0);
    due("only what is thought of counts", signed.better(true), 2);
    due("fishes on in the calm", signed.plan(0, 0, 0), 240);
    due("together likewise", signed.better(false), 2);
    due("fishes on in the calm", signed.plan(0, 0, 0), 240);
  }

  private static final String HARD = "h9,9,10,0;b1,9,1,100,1;d0,0,9;s10,5,9,9,24,0;r9,100;";

  private static void gun() {
    StormHarbours x = laid(HARD);
    due("at 0", x.gun(0), 0);
    due("at 4", x.gun(4), 40000000);
    due("at 5", x.gun(5), 10 * (5000000 - 19000000));
    due("never", x.gun(24), x.by(4));
    due("the nearest of each", laid(BAY).gun(0), 5 * (-2 * 4240000L - 71200000L));
    due("plans are as they were", x.plan(0, 24, 0), 240);
    due("u", x.gun(25), LEAST);
    due("u", x.gun(-1), LEAST);
  }

  private static void bestGun() {
    due("just ahead of the storm", laid(HARD).bestGun(), 4);
    due("never", new StormHarbours().bestGun(), 24);
    due("of several the first", laid(HARD.replace("b1,9,1", "b1,9,0")).bestGun(), 0);
    StormHarbours x = laid(HARD.replace("s10", "s5") + "s5,0,1,0,0,0;g1,0,1;");
    x.sign(1);
    due("the calm alone", x.bestGun(), 24);
  }

  private static void convoy() {
    StormHarbours x = laid("h9,9,10,0;h9,9,10,0;b1,9,0,100,1;b1,3,0,100,1;d0,0,9;d1,0,9;s10,0,1,1,24,0;r1,100;");
    x.plan(0, 0, 0);
    x.plan(1, 0, 0);
    due("by plans", x.mean(), -371000000);
    due("the quick one waits", x.convoy(3, 0, 0), -542000000);
    due("alone it does not", x.convoy(1, 0, 0), -371000000);
    due("nor is the slow one waited for", x.convoy(2, 0, 0), -371000000);
    due("an hour later: .81 and .729", x.convoy(1, 1, 0), 10 * (-19000000 - 27100000));
    due("plans are as they were", x.plan(0, 0, 0), 0);
    due("and speeds", x.mean(), -371000000);
    x.convoy(3, 0, 0);
    due("lives", x.lives(0, 0, 0), 900000);
    x.convoy(3, 0, 0);
    due("value", x.value(0), -37100000);
    x.convoy(3, 0, 0);
    due("gun", x.gun(0), -371000000);
    x.convoy(3, 0, 0);
    due("by", x.by(0), -371000000);
    x.convoy(3, 0, 0);
    due("first", x.first(), -371000000);
    due("no sorts", x.convoy(0, 0, 0), LEAST);
    due("sorts", x.convoy(4, 0, 0), LEAST);
    due("sorts", x.convoy(-1, 0, 0), LEAST);
    due("u", x.convoy(1, 24, 0), LEAST);
    due("u", x.convoy(1, -1, 0), LEAST);
    due("j", x.convoy(1, 0, 2), LEAST);
  }

  private static void first() {
    StormHarbours x = laid(COVE);
    x.plan(0, 0, 0);
    x.plan(1, 0, 0);
    long lost = 1000000 - x.lives(0, 1, 0);
    due("by sorts", x.mean(), -9000 * lost);
    due("the dearest first", x.first(), -100 * lost);
    due("mean is as it was", x.mean(), -9000 * lost);
    x.first();
    due("lives", x.lives(0, 0, 0), 1000000);
    x.first();
    due("in", x.in(0, 0), 1);
    x.first();
    due("shut", x.shut(0), 10);
    x.first();
    due("value", x.value(0), -900 * lost);
    x.first();
    due("by", x.by(0), -9000 * lost);
    x.first();
    due("gun", x.gun(0), -9000 * lost);
    x.first();
    due("convoy", x.convoy(3, 0, 0), -9000 * lost);
    due("first behind a convoy", x.first(), -100 * lost);
    x.first();
    due("better", x.better(true), 1);
    StormHarbours y = laid(COVE.replace("b1,9,0,900,1", "b1,9,0,900,0"));
    y.plan(0, 0, 0);
    y.plan(1, 0, 0);
    due("W times K, not W", y.first(), y.mean());
    StormHarbours z = laid(COVE.replace("b1,9,0,10,1;b1,9,0,900,1", "b1,9,0,5,2;b1,9,0,10,1"));
    z.plan(0, 1, 0);
    z.plan(1, 0, 0);
    due("as dear: as told", z.first(), z.mean());
    StormHarbours u = laid(COVE);
    u.plan(0, 0, 0);
    u.plan(1, 1, 0);
    due("who is not there does not go ahead", u.first(), u.mean());
  }

  private static void night() {
    StormHarbours x = laid(BAY);
    int[] draws = {1, 3, 3, 0, 5};
    for (int z = 0; z < draws.length; z++) due("storm of " + z, x.night(z, 0, 0), draws[z] / 5);
    due("storm of 7", x.night(7, 0, 0), 1);
    due("storm of 9999", x.night(9999, 0, 0), 0);
    due("value in the storm", x.night(0, 4, 1), 9464000);
    due("value in the calm", x.night(4, 4, 1), 144000000);
    due("value by the glass", x.night(0, 1, 1), 3 * 2000000 - 3 * 4240000 - 71200000);
    x.sign(0);
    x.sign(0);
    due("all storms, whatever is thought", x.night(0, 0, 0), 0);
    StormHarbours y = laid("h1,1,1,0;" + B + "s0,0,1,0,0,0;s1,0,1,0,0,0;s0,0,1,0,0,0;s9,0,1,0,0,0;");
    due("draw 0", y.night(3, 0, 0), 1);
    due("draw 1", y.night(0, 0, 0), 3);
    due("z", x.night(10000, 0, 0), LEAST);
    due("z", x.night(-1, 0, 0), LEAST);
    due("rule", x.night(0, 5, 1), LEAST);
    due("rule", x.night(0, -1, 0), LEAST);
    due("what", x.night(0, 0, 2), LEAST);
    due("what", x.night(0, 0, -1), LEAST);
  }

  private static void keepAndBack() {
    StormHarbours x = laid(BAY);
    due("none kept", x.back(), NO);
    x.plan(0, 3, 1);
    x.set(0, 8);
    x.set(1, 9);
    due("one", x.keep(), 1);
    x.plan(0, 4, 0);
    x.plan(1, 5, 1);
    x.set(0, 7);
    x.set(1, 6);
    x.sign(0);
    x.sign(5);
    due("two", x.keep(), 2);
    x.plan(0, 6, 0);
    x.sign(0);
    due("three", x.keep(), FULL);
    due("nothing changed", x.count(5) * 10 + x.now(0), 23);
    due("the last", x.back(), 1);
    due("plan", x.plan(0, 9, 0), 40);
    due("plan", x.plan(1, 9, 0), 51);
    due("X, Y, hour, thought", x.now(2) * 1000 + x.now(3) * 100 + x.now(0) * 10 + x.now(1), 7621);
    due("the first", x.back(), 0);
    due("plan", x.plan(0, 9, 0), 31);
    due("plan", x.plan(1, 9, 0), 240);
    due("X, Y, hour, thought", x.now(2) * 1000 + x.now(3) * 100 + x.now(0) * 10 + x.now(1), 8903);
    due("no more", x.back(), NO);
    due("again", x.keep(), 1);
    due("lay keeps nothing", x.lay() * 10 + x.count(5), 20);
  }

  private static void count() {
    StormHarbours x = laid(BAY + B);
    int[] want = {2, 3, 2, 5, BAY.length() + B.length(), 0};
    for (int what = 0; what < 6; what++) due("count of " + what, x.count(what), want[what]);
    x.keep();
    due("kept", x.count(5), 1);
    due("what", x.count(6), BAD);
    due("what", x.count(-1), BAD);
  }

  /** All that there can be at most, each call on it. */
  private static void greatest() {
    StringBuilder text = new StringBuilder();
    for (int k = 0; k < 4; k++) text.append("h99,9,10,15;b8,9,99,999,0;s").append(k == 3 ? 10 : 0).append(",0,9,9,24,3;");
    for (int k = 0; k < 4; k++) text.append("d3,").append(k).append(",99;g").append(k).append(",23,9;");
    StormHarbours x = laid(text.append("r9,200;w9;").toString());
    due("boats", x.count(3), 32);
    due("mean", x.mean(), 10L * 32 * 24 * 99 * 1000000);
    due("stay", x.by(4), x.mean());
    due("glass at 23", x.ran(1, 3, 3), 230);
    due("open at 23", x.ran(3, 3, 3), 230);
    due("herd", x.ran(2, 3, 3), 240);
    due("alone", x.alone(3), 10L * 24 * 99 * 1000000);
    due("does", x.does(3, 23, 15), 0);
    due("better", x.better(false), 1);
    due("each", x.better(true), 1);
    due("bestGun", x.bestGun(), 24);
    due("convoy of all", x.convoy(15, 23, 3), 10L * 32 * 23 * 99 * 1000000);
    due("plan", x.plan(3, 0, 3), 240);
    due("8 in at 13", x.in(3, 3), 8);
    due("first", x.first(), x.mean());
    due("night", x.night(0, 0, 0), 3);
    due("sign of 24 hours", x.sign(0), 15);
    due("keep", x.keep(), 1);
  }

  public static void main(String[] args) {
    promise = "1 new object"; newObject();
    promise = "2 write"; write();
    promise = "3 wipe"; wipe();
    promise = "4 fault"; fault();
    promise = "5 lay"; lay();
    promise = "6 storm"; storm();
    promise = "7 open"; open();
    promise = "8 risk"; risk();
    promise = "9 reach"; reach();
    promise = "10 plan"; plan();
    promise = "11 value"; value();
    promise = "12 in"; in();
    promise = "13 lives"; lives();
    promise = "14 mean"; mean();
    promise = "15 shut"; shut();
    promise = "16 sign"; sign();
    promise = "17 now"; now();
    promise = "18 set"; set();
    promise = "19 by"; by();
    promise = "20 ran"; ran();
    promise = "21 alone"; alone();
    promise = "22 does"; does();
    promise = "23 better"; better();
    promise = "24 gun"; gun();
    promise = "25 bestGun"; bestGun();
    promise = "26 convoy"; convoy();
    promise = "27 first"; first();
    promise = "28 night"; night();
    promise = "29, 30 keep, back"; keepAndBack();
    promise = "31 count"; count();
    promise = "the greatest sea"; greatest();
    System.out.println(right + " passed, " + wrong + " failed");
    if (wrong != 0) System.exit(1);
  }
}
