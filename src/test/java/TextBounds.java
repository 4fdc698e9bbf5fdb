/** Boundary cases of THE TEXT, its ITEMS and what is LAID: promises 1 to 5. */
public final class TextBounds {
  private static final int NO = Bounds.NO, NONE = Bounds.NONE, BAD = Bounds.BAD, FULL = Bounds.FULL;

  private static final String H = "h1,1,1,0;", B = "b1,1,1,1,1;", S = "s1,0,1,0,0,0;", CALM = "s10,0,1,0,0,0;";
  private static final String WHOLE = H + B + CALM;

  private static void due(String call, long got, long want) { Bounds.due(call, got, want); }

  private static void test(int promise, String quote, String edge, Bounds.Body body) { Bounds.test(promise, quote, edge, body); }

  private static void newObject() {
    test(1, "at first h9,9,10,0;b1,5,1,10,1;s10,0,1,0,0,0;", "one of each, no second one", () -> {
      StormHarbours x = new StormHarbours();
      for (int what = 0; what < 4; what++) due("count(" + what + ")", x.count(what), 1);
      due("plan of HARBOUR 1", x.plan(0, 0, 1), BAD);
      due("plan of SORT 1", x.plan(1, 0, 0), BAD);
      due("shut of STORM 1", x.shut(1), BAD);
      due("lives of boat 1", x.lives(0, 0, 1), BAD);
    });
    test(1, "at first h9,9,10,0;b1,5,1,10,1;s10,0,1,0,0,0;", "calm and open at every HOUR, SPEED 5 over 20 miles", () -> {
      StormHarbours x = new StormHarbours();
      for (int t = 0; t < 24; t++) {
        due("strength at " + t, x.storm(0, t, 0), 0);
        due("glass at " + t, x.storm(0, t, 1), 0);
        due("open at " + t, x.open(0, 0, t), 1);
        due("risk at " + t, x.risk(0, 0, t), 0);
        due("reach of " + t, x.reach(0, 0, 0, t), t < 20 ? t + 4 : NONE);
      }
      due("fish 1 an HOUR", x.value(0), 24000000);
    });
    test(1, "by its PLAN (24, 0 at first)", "never", () -> {
      due("ran", new StormHarbours().ran(0, 0, 0), 240);
      due("plan", new StormHarbours().plan(0, 0, 0), 240);
    });
    test(1, "when the GLASS tells X (0 to 9; 3 at first) or more", "X at first", () -> due("now(2)", new StormHarbours().now(2), 3));
    test(1, "when Y boats (1 to 32; 4 at first) or more", "Y at first", () -> due("now(3)", new StormHarbours().now(3), 4));
    test(1, "at the HOUR that is now (0 at first)", "the HOUR at first", () -> due("now(0)", new StormHarbours().now(0), 0));
    test(1, "over STORMS that are THOUGHT of (all at first)", "THOUGHT at first", () -> due("now(1)", new StormHarbours().now(1), 1));
    test(1, "As told.", "THE TEXT is empty", () -> {
      StormHarbours x = new StormHarbours();
      due("count(4)", x.count(4), 0);
      due("fault", x.fault(), NONE);
      due("lay", x.lay(), NO);
      due("wipe", x.wipe(), 0);
    });
    test(1, "As told.", "nothing is KEPT", () -> {
      due("count(5)", new StormHarbours().count(5), 0);
      due("back", new StormHarbours().back(), NO);
    });
    test(1, "As told.", "one object is nothing to another", () -> {
      StormHarbours x = Bounds.laid(Bounds.many(2, 3, 4, 2));
      x.plan(0, 7, 1);
      x.set(0, 9);
      x.keep();
      StormHarbours y = new StormHarbours();
      due("sorts", y.count(1), 1);
      due("bytes", y.count(4), 0);
      due("kept", y.count(5), 0);
      due("X", y.now(2), 3);
      due("plan", y.plan(0, 0, 0), 240);
      due("the other's plan", x.plan(0, 0, 0), 71);
    });
    test(1, "As told.", "the answers' names", () -> {
      due("BAD", StormHarbours.BAD, -1);
      due("NO", StormHarbours.NO, -2);
      due("FULL", StormHarbours.FULL, -3);
      due("NONE", StormHarbours.NONE, -4);
    });
    test(1, "An object is used for at most 512 calls after it has been made", "the 512th is as the first", () -> {
      StormHarbours x = new StormHarbours();
      for (int k = 1; k <= 500; k++) due("write " + k, x.write(1, 'x'), k);
      due("write 501", x.write(1, 'x'), FULL);
      due("fault", x.fault(), 0);
      due("lay", x.lay(), NO);
      due("wipe", x.wipe(), 500);
      due("plan", x.plan(0, 3, 0), 240);
      due("better", x.better(false), 2);
      due("keep", x.keep(), 1);
      due("sign", x.sign(0), 1);
      due("alone", x.alone(0), 240000000);
      due("back", x.back(), 0);
      due("now", x.now(0), 0);
      due("mean, the 512th", x.mean(), 240000000);
    });
  }

  private static void write() {
    test(2, "n bytes (1 to 8) of v", "n too small", () -> {
      StormHarbours x = new StormHarbours();
      for (int n : new int[] {0, -1, -8, Integer.MIN_VALUE}) due("write(" + n + ")", x.write(n, 'w'), BAD);
      due("nothing came", x.count(4), 0);
    });
    test(2, "n bytes (1 to 8) of v", "n too large", () -> {
      StormHarbours x = new StormHarbours();
      for (int n : new int[] {9, 10, 16, 64, 256, Integer.MAX_VALUE}) due("write(" + n + ")", x.write(n, 'w'), BAD);
      due("nothing came", x.count(4), 0);
    });
    test(2, "n bytes (1 to 8) of v", "each n from 1 to 8", () -> {
      StormHarbours x = new StormHarbours();
      int length = 0;
      for (int n = 1; n <= 8; n++) due("write(" + n + ")", x.write(n, 0), length += n);
    });
    test(2, "the highest first, come behind THE TEXT", "each n, whatever stands above these bytes", () -> {
      String[] pieces = {"w", "1;", "w1;", "w01;", "r1,1;", "r1,10;", "r1,100;", "w1;r1,1;"};
      StormHarbours x = new StormHarbours();
      for (String piece : pieces) {
        int n = piece.length();
        long above = n == 8 ? 0 : 0x7777777777777777L << 8 * n;
        x.write(n, above | Bounds.packed(piece));
        due("fault behind " + piece, x.fault(), n == 1 ? 0 : NONE);
      }
      due("in all", x.count(4), 36);
    });
    test(2, "n bytes (1 to 8) of v", "bytes of 0 and of 255 are bytes", () -> {
      StormHarbours x = Bounds.told("w1;");
      due("zeros", x.write(8, 0), 11);
      due("fault", x.fault(), 3);
      x.wipe();
      due("write(8, -1)", x.write(8, -1), 8);
      due("write(8, least)", x.write(8, Long.MIN_VALUE), 16);
      due("write(1, greatest)", x.write(1, Long.MAX_VALUE), 17);
      due("fault", x.fault(), 0);
    });
    test(2, "A TEXT is bytes (500 at most)", "each n fits to 500 and not to 501", () -> {
      for (int n = 1; n <= 8; n++) {
        StormHarbours x = Bounds.told("x".repeat(500 - n));
        due("write(" + n + ") to 500", x.write(n, 0), 500);
        StormHarbours y = Bounds.told("x".repeat(501 - n));
        due("write(" + n + ") to 501", y.write(n, 0), FULL);
        due("it is as long as it was", y.count(4), 501 - n);
      }
    });
    test(2, "BAD; FULL.", "a full TEXT takes none of 1 to 8 bytes", () -> {
      StormHarbours x = Bounds.told("x".repeat(500));
      for (int n = 1; n <= 8; n++) due("write(" + n + ")", x.write(n, 0), FULL);
      due("count(4)", x.count(4), 500);
    });
    test(2, "Of several the first; nothing changes then.", "BAD ahead of FULL", () -> {
      StormHarbours x = Bounds.told("x".repeat(500));
      due("write(0)", x.write(0, 0), BAD);
      due("write(9)", x.write(9, 0), BAD);
      due("write(least)", x.write(Integer.MIN_VALUE, 0), BAD);
      due("write(greatest)", x.write(Integer.MAX_VALUE, 0), BAD);
    });
    test(2, "Of several the first; nothing changes then.", "no byte comes of a write that is FULL", () -> {
      StormHarbours x = Bounds.told("w3;".repeat(166));
      due("498 and 3", x.write(3, Bounds.packed("w1;")), FULL);
      due("fault", x.fault(), NONE);
      due("498 and 2", x.write(2, Bounds.packed("w1")), 500);
      due("fault", x.fault(), 498);
    });
  }

  private static void wipe() {
    test(3, "THE TEXT is empty: how long it was.", "an empty one", () -> {
      StormHarbours x = new StormHarbours();
      due("wipe", x.wipe(), 0);
      due("wipe", x.wipe(), 0);
    });
    test(3, "THE TEXT is empty: how long it was.", "a full one, which then takes 500 again", () -> {
      StormHarbours x = Bounds.told("x".repeat(500));
      due("wipe", x.wipe(), 500);
      due("count(4)", x.count(4), 0);
      due("fault", x.fault(), NONE);
      Bounds.write(x, "w1;".repeat(166));
      due("fault of the new one", x.fault(), NONE);
      due("to 500", x.write(2, 0), 500);
      due("to 501", x.write(1, 0), FULL);
    });
    test(3, "THE TEXT is empty: how long it was.", "what was behind is not read again", () -> {
      StormHarbours x = Bounds.told("w12;");
      x.wipe();
      Bounds.write(x, "w1");
      due("fault", x.fault(), 0);
      due("wipe", x.wipe(), 2);
    });
    test(3, "THE TEXT is empty: how long it was.", "what is LAID stays", () -> {
      StormHarbours x = Bounds.laid(Bounds.many(2, 3, 4, 2));
      x.plan(2, 5, 1);
      due("wipe", x.wipe() > 0 ? 1 : 0, 1);
      due("boats", x.count(3), 12);
      due("plan", x.plan(2, 0, 0), 51);
      due("lay of an empty one", x.lay(), NO);
    });
  }

  /** The number at a place of an ITEM, that has these limits; what must be told ahead stands ahead. */
  private static void limits(String quote, String ahead, String item, int place, int low, int high) {
    String start = "w1;" + ahead;
    test(4, quote, "least and greatest", () -> {
      for (int v : new int[] {low, low + 1, high - 1, high}) {
        if (v >= low && v <= high) due("fault with " + v, Bounds.faultOf(start + with(item, place, "" + v) + "w1;"), NONE);
      }
    });
    test(4, quote, "too small", () ->
        due("fault with " + (low - 1), Bounds.faultOf(start + with(item, place, "" + (low - 1)) + "w1;"), start.length()));
    test(4, quote, "too large", () -> {
      due("fault with " + (high + 1), Bounds.faultOf(start + with(item, place, "" + (high + 1)) + "w1;"), start.length());
      if (high < 999) due("fault with 999", Bounds.faultOf(start + with(item, place, "999") + "w1;"), start.length());
      // What a byte, or two, would make of them lies within the limits.
      due("fault with 256 and least", Bounds.faultOf(start + with(item, place, "" + (low + 256)) + "w1;"),
          low + 256 <= high ? NONE : start.length());
    });
  }

  private static String with(String item, int place, String number) {
    String[] numbers = item.substring(1, item.length() - 1).split(",");
    numbers[place] = number;
    return item.charAt(0) + String.join(",", numbers) + ";";
  }

  private static void faultOfNumbers() {
    limits("a HARBOUR: ROOM R (1 to 99 boats)", "", H, 0, 1, 99);
    limits("M come in an HOUR at most (1 to 9)", "", H, 1, 1, 9);
    limits("its BAR breaks at strength B (1 to 10)", "", H, 2, 1, 10);
    limits("from SIDES E (bits, 0 to 15)", "", H, 3, 0, 15);
    limits("a SORT: N boats (1 to 8)", "", B, 0, 1, 8);
    limits("SPEED S (1 to 9)", "", B, 1, 1, 9);
    limits("fish worth F an HOUR (0 to 99)", "", B, 2, 0, 99);
    limits("a boat worth W (0 to 999)", "", B, 3, 0, 999);
    limits("RISK K (0 to 9)", "", B, 4, 0, 9);
    limits("SORT I lies D miles (1 to 99) off HARBOUR J", H + B, "d0,0,5;", 2, 1, 99);
    limits("a STORM by C tenths (0 to 10)", "", S, 0, 0, 10);
    limits("from HOUR T (0 to 23) on", "", S, 1, 0, 23);
    limits("each HOUR G (1 to 9) stronger", "", S, 2, 1, 9);
    limits("to K (0 to 9), L HOURS (0 to 24) long", "", S, 3, 0, 9);
    limits("L HOURS (0 to 24) long", "", S, 4, 0, 24);
    limits("from SIDE A (0 to 3)", "", S, 5, 0, 3);
    limits("the GLASS tells V (0 to 9) at HOUR H (0 to 23)", S, "g0,5,5;", 1, 0, 23);
    limits("the GLASS tells V (0 to 9)", S, "g0,5,5;", 2, 0, 9);
    limits("at strength X (1 to 9)", "", "r5,5;", 0, 1, 9);
    limits("Q of a thousand are lost an HOUR (0 to 200)", "", "r5,5;", 1, 0, 200);
    limits("a boat is slower by one for each X of strength (1 to 9;", "", "w5;", 0, 1, 9);
    for (int told = 0; told <= 4; told++) {
      int n = told;
      limitsOfTold("dI,J,D SORT I lies D miles (1 to 99) off HARBOUR J (both told ahead;", "the SORT, " + n + " told", n,
          H.repeat(4) + B.repeat(n), "d", ",0,5;");
      limitsOfTold("dI,J,D SORT I lies D miles (1 to 99) off HARBOUR J (both told ahead;", "the HARBOUR, " + n + " told", n,
          B.repeat(4) + H.repeat(n), "d0,", ",5;");
      limitsOfTold("in STORM I (told ahead)", "the STORM, " + n + " told", n, S.repeat(n), "g", ",0,5;");
    }
  }

  private static void limitsOfTold(String quote, String edge, int told, String ahead, String before, String behind) {
    test(4, quote, edge, () -> {
      for (int k = 0; k < told; k++) due("fault of " + k, Bounds.faultOf(ahead + before + k + behind), NONE);
      for (int k = told; k <= 5; k++) due("fault of " + k, Bounds.faultOf(ahead + before + k + behind), ahead.length());
      due("fault of -1", Bounds.faultOf(ahead + before + "-1" + behind), ahead.length());
    });
  }

  private static void faultOfCounts() {
    String[] items = {H, B, S};
    String[] quotes = {"from SIDES E (bits, 0 to 15); 4 at most, 0, 1, ..", "RISK K (0 to 9); 4 at most, 0, 1, ..", "from SIDE A (0 to 3); 4 at most, 0, 1, .."};
    for (int k = 0; k < 3; k++) {
      String item = items[k];
      test(4, quotes[k], "four", () -> due("fault", Bounds.faultOf(item.repeat(4)), NONE));
      test(4, quotes[k], "a fifth", () -> {
        due("fault", Bounds.faultOf(item.repeat(5)), 4 * item.length());
        due("fault behind others", Bounds.faultOf(item.repeat(4) + "w1;" + item), 4 * item.length() + 3);
      });
    }
    test(4, "from SIDES E (bits, 0 to 15); 4 at most, 0, 1, ..", "four of each, told in turns", () ->
        due("fault", Bounds.faultOf((H + B + S).repeat(4) + "d3,3,9;g3,23,9;"), NONE));
    test(4, "(both told ahead; 20 without; the last one of both)", "told behind it", () -> {
      due("the SORT behind", Bounds.faultOf(H + "d0,0,5;" + B), H.length());
      due("the HARBOUR behind", Bounds.faultOf(B + "d0,0,5;" + H), B.length());
      due("both ahead", Bounds.faultOf(B + H + "d0,0,5;"), NONE);
    });
    test(4, "in STORM I (told ahead)", "told behind it", () -> due("fault", Bounds.faultOf("g0,0,1;" + S), 0));
    test(4, "in STORM I (told ahead) the GLASS tells V (0 to 9) at HOUR H (0 to 23) (0 without; the last one of both)", "told twice is no FAULT", () -> {
      due("g", Bounds.faultOf(S + "g0,1,2;g0,1,2;g0,1,3;"), NONE);
      due("d", Bounds.faultOf(H + B + "d0,0,2;d0,0,2;d0,0,3;"), NONE);
      due("r and w", Bounds.faultOf("r1,1;r1,2;w1;w1;w2;"), NONE);
    });
    test(4, "STORMS of 10 tenths together", "tenths above and below 10 are no FAULT", () -> {
      due("none", Bounds.faultOf("s0,0,1,0,0,0;"), NONE);
      due("forty", Bounds.faultOf(CALM.repeat(4)), NONE);
    });
  }

  private static void faultOfForm() {
    test(4, "FAULT. NONE.", "an empty TEXT", () -> due("fault", Bounds.faultOf(""), NONE));
    test(4, "each a letter, numbers", "each byte as the letter", () -> {
      for (int b = 0; b < 256; b++) {
        due("fault with the letter " + b, Bounds.faultOf("r1,1;" + (char) b + "1;"), b == 'w' ? NONE : 5);
      }
    });
    test(4, "each a letter, numbers", "no letter, two letters, a letter alone", () -> {
      for (String text : new String[] {"1;", "1,1;", ";", ",", "ww1;", "hb1,1,1,0;", "w", "h", "b", "d", "s", "g", "r"}) {
        due("fault of " + text, Bounds.faultOf(text), 0);
      }
    });
    test(4, "numbers (one to three figures)", "no figure", () -> {
      for (String text : new String[] {"w;", "r,1;", "r1,;", "h1,,1,0;", "h,1,1,0;", "h1,1,1,;"}) due("fault of " + text, Bounds.faultOf(text), 0);
    });
    test(4, "numbers (one to three figures)", "three figures, noughts ahead", () -> {
      for (String text : new String[] {"w1;", "w01;", "w001;", "r009,200;", "h099,009,010,015;", "s000,000,001,000,000,000;"}) {
        due("fault of " + text, Bounds.faultOf(text), NONE);
      }
    });
    test(4, "numbers (one to three figures)", "four figures", () -> {
      for (String text : new String[] {"w0001;", "w1000;", "r1,0000;", "h0001,1,1,0;", "b1,1,1,0999,1;", "b1,1,1,1000,1;", "r00001,1;", "w4294967297;"}) {
        due("fault of " + text, Bounds.faultOf(text), 0);
      }
    });
    test(4, "numbers (one to three figures)", "each byte as the figure", () -> {
      for (int b = 0; b < 256; b++) due("fault with the figure " + b, Bounds.faultOf("w" + (char) b + ";"), b >= '1' && b <= '9' ? NONE : 0);
      for (int b = 0; b < 256; b++) due("fault with the figure " + b, Bounds.faultOf("r9,1" + (char) b + ";"), b >= '0' && b <= '9' ? NONE : b == ';' ? 5 : 0);
    });
    test(4, "parted by , and ; (behind the last one, too)", "each byte between two numbers", () -> {
      for (int b = 0; b < 256; b++) due("fault with " + b, Bounds.faultOf("r1" + (char) b + "1;"), b == ',' ? NONE : 0);
    });
    test(4, "parted by , and ; (behind the last one, too)", "each byte at the end", () -> {
      for (int b = 0; b < 256; b++) {
        due("fault with " + b, Bounds.faultOf("r1,1;r1,001" + (char) b), b == ';' ? NONE : 5);
      }
    });
    test(4, "parted by , and ; (behind the last one, too)", "without the last ;", () -> {
      for (String item : new String[] {H, B, S, "r1,1;", "w1;"}) {
        for (int n = 1; n < item.length(); n++) due("fault of " + item.substring(0, n), Bounds.faultOf("w1;" + item.substring(0, n)), 3);
      }
      due("the ; of the one between", Bounds.faultOf("w1w1;"), 0);
    });
    test(4, "parted by , and ; (behind the last one, too)", "two of them, or one too much", () -> {
      for (String text : new String[] {"w1;;", ";w1;", "w1,;", "r1,,1;", "r,1,1;", "r1,1,;", "w1;,", "w1; ", "w1;\n"}) {
        due("fault of " + text, Bounds.faultOf(text), text.startsWith("w1;") ? 3 : 0);
      }
    });
    String[] items = {"h1,1,1,1;", "b1,1,1,1,1;", "d0,0,1;", "s1,1,1,1,1,1;", "g0,1,1;", "r1,1;", "w1;"};
    String[] quotes = {"hR,M,B,E", "bN,S,F,W,K", "dI,J,D", "sC,T,G,K,L,A", "gI,H,V", "rX,Q", "wX"};
    for (int k = 0; k < items.length; k++) {
      String item = items[k], ahead = H + B + S;
      test(4, quotes[k], "one number too few, one too many", () -> {
        due("as told", Bounds.faultOf(ahead + item), NONE);
        String short1 = item.contains(",") ? item.substring(0, item.lastIndexOf(',')) + ";" : "w;";
        due("too few", Bounds.faultOf(ahead + short1), ahead.length());
        due("too many", Bounds.faultOf(ahead + item.replace(";", ",1;")), ahead.length());
        due("a capital", Bounds.faultOf(ahead + item.substring(0, 1).toUpperCase() + item.substring(1)), ahead.length());
      });
    }
  }

  private static void placeOfFault() {
    test(4, "FAULT: the place of the first byte of the first ITEM that is not so.", "of several the first", () -> {
      due("two", Bounds.faultOf("w1;w0;w0;"), 3);
      due("three", Bounds.faultOf("w1;w1;x;h0;;"), 6);
      due("a limit ahead of a form", Bounds.faultOf("h100,1,1,0;%%%"), 0);
    });
    test(4, "FAULT: the place of the first byte of the first ITEM that is not so.", "its first byte, not the wrong one", () -> {
      due("the last number", Bounds.faultOf("w1;s1,0,1,0,0,4;"), 3);
      due("the end", Bounds.faultOf("w1;s1,0,1,0,0,3"), 3);
    });
    test(4, "FAULT: the place of the first byte of the first ITEM that is not so.", "the first and the last place of 500", () -> {
      due("0 of 500", Bounds.faultOf("x".repeat(500)), 0);
      due("499", Bounds.faultOf("w3;".repeat(165) + "w03;x"), 499);
      due("a letter alone at 499", Bounds.faultOf("w3;".repeat(165) + "w03;w"), 499);
      due("498", Bounds.faultOf("w3;".repeat(166) + "w3"), 498);
    });
    test(4, "FAULT. NONE.", "500 bytes without FAULT", () -> due("fault", Bounds.faultOf("w3;".repeat(165) + "r1,1;"), NONE));
    test(4, "FAULT. NONE.", "it is of THE TEXT as it is now", () -> {
      StormHarbours x = Bounds.told("w");
      due("w", x.fault(), 0);
      Bounds.write(x, "1");
      due("w1", x.fault(), 0);
      Bounds.write(x, ";");
      due("w1;", x.fault(), NONE);
      due("asked again", x.fault(), NONE);
      Bounds.write(x, "d");
      due("w1;d", x.fault(), 3);
      x.wipe();
      due("wiped", x.fault(), NONE);
    });
  }

  private static void lay() {
    String lies = "LAID is a TEXT without FAULT with a HARBOUR, a SORT and STORMS of 10 tenths together (NO else;";
    test(5, lies, "an empty TEXT", () -> due("lay", Bounds.layOf(""), NO));
    test(5, lies, "a FAULT at the end", () -> due("lay", Bounds.layOf(WHOLE + "x"), NO));
    test(5, lies, "a FAULT at the beginning", () -> due("lay", Bounds.layOf("x" + WHOLE), NO));
    test(5, lies, "no HARBOUR", () -> due("lay", Bounds.layOf(B + CALM), NO));
    test(5, lies, "no SORT", () -> due("lay", Bounds.layOf(H + CALM), NO));
    test(5, lies, "no STORM", () -> due("lay", Bounds.layOf(H + B), NO));
    test(5, lies, "0, 9, 11, 20 and 40 tenths", () -> {
      for (String storms : new String[] {"s0,0,1,0,0,0;", "s9,0,1,0,0,0;", "s9,0,1,0,0,0;s2,0,1,0,0,0;", CALM + CALM, CALM.repeat(4), CALM + S}) {
        due("lay of " + storms, Bounds.layOf(H + B + storms), NO);
      }
    });
    test(5, lies, "10 tenths by one, two, three, four", () -> {
      due("one", Bounds.layOf(WHOLE), 1);
      due("10 and 0", Bounds.layOf(WHOLE + "s0,0,1,0,0,0;"), 1);
      due("0 and 10", Bounds.layOf(H + B + "s0,0,1,0,0,0;" + CALM), 1);
      due("three", Bounds.layOf(H + B + "s3,0,1,0,0,0;s3,0,1,0,0,0;s4,0,1,0,0,0;"), 1);
      due("four", Bounds.layOf(H + B + S + S + S + "s7,0,1,0,0,0;"), 1);
    });
    test(5, "LAID: how many SORTS", "one to four", () -> {
      for (int n = 1; n <= 4; n++) due("lay", Bounds.layOf(Bounds.many(1, n, 1, 1)), n);
    });
    test(5, lies, "500 bytes", () -> {
      StringBuilder filled = new StringBuilder(WHOLE);
      while (filled.length() <= 494) filled.append("w3;");
      filled.append(filled.length() == 495 ? "r1,1;" : filled.length() == 496 ? "w03;" : "w3;");
      due("bytes", filled.length(), 500);
      due("lay", Bounds.layOf(filled.toString()), 1);
    });
    test(5, "off HARBOUR J (both told ahead; 20 without; the last one of both)", "20 without", () -> {
      StormHarbours x = Bounds.laid("h1,1,1,0;h1,1,1,0;b1,1,1,1,1;b1,1,1,1,1;" + CALM + "d1,0,3;");
      due("without", x.reach(0, 0, 0, 0), 20);
      due("of the other SORT alone", x.reach(0, 1, 0, 0), 20);
      due("of the other HARBOUR alone", x.reach(1, 1, 0, 0), 20);
      due("told", x.reach(1, 0, 0, 0), 3);
    });
    test(5, "off HARBOUR J (both told ahead; 20 without; the last one of both)", "the last one of both", () -> {
      StormHarbours x = Bounds.laid("h1,1,1,0;h1,1,1,0;b1,1,1,1,1;" + CALM + "d0,0,3;d0,1,4;d0,0,9;d0,0,7;");
      due("the last", x.reach(0, 0, 0, 0), 7);
      due("the other", x.reach(0, 1, 0, 0), 4);
    });
    test(5, "at HOUR H (0 to 23) (0 without; the last one of both)", "0 without, the last one", () -> {
      StormHarbours x = Bounds.laid(H + B + "s5,0,1,0,0,0;s5,0,1,0,0,0;g0,0,4;g0,23,9;g0,0,6;g1,0,5;g0,1,3;g0,1,0;");
      due("the last", x.storm(0, 0, 1), 6);
      due("the last is 0", x.storm(0, 1, 1), 0);
      due("without", x.storm(0, 22, 1), 0);
      due("HOUR 23", x.storm(0, 23, 1), 9);
      due("of the other", x.storm(1, 0, 1), 5);
      due("of the other without", x.storm(1, 23, 1), 0);
    });
    test(5, "are lost an HOUR (0 to 200) (0 without; the last one)", "0 without, the last one", () -> {
      StormHarbours x = Bounds.laid(H + B + "s10,0,1,9,24,0;r1,5;r9,200;r1,7;r3,4;r3,0;");
      due("the last", x.risk(0, 0, 0), 7);
      due("without", x.risk(0, 0, 1), 0);
      due("the last is 0", x.risk(0, 0, 2), 0);
      due("strength 9", x.risk(0, 0, 8), 200);
    });
    test(5, "for each X of strength (1 to 9; 3 without; the last one)", "3 without, the last one", () -> {
      String sea = "h1,1,1,0;b1,9,1,1,1;s10,0,9,9,24,0;";
      due("9 less 3: 6 an HOUR", Bounds.laid(sea).reach(0, 0, 0, 0), 4);
      due("9 less 1: 8", Bounds.laid(sea + "d0,0,24;w1;w9;").reach(0, 0, 0, 0), 3);
      due("9 less 9: 1", Bounds.laid(sea + "w9;w1;").reach(0, 0, 0, 0), 20);
    });
    layAgain();
  }

  private static void layAgain() {
    test(5, "PLANS, X, Y, the HOUR, what is THOUGHT as at first, nothing KEPT.", "laid again", () -> {
      StormHarbours x = Bounds.laid("h9,9,9,0;h9,9,9,0;b2,5,1,1,1;b2,5,1,1,1;s5,0,1,0,0,0;s5,0,1,0,0,0;g0,0,1;");
      x.plan(0, 5, 1);
      x.plan(1, 24, 1);
      x.set(0, 9);
      x.set(1, 32);
      x.keep();
      x.sign(1);
      x.keep();
      due("lay", x.lay(), 2);
      due("kept", x.count(5), 0);
      due("back", x.back(), NO);
      due("X", x.now(2), 3);
      due("Y", x.now(3), 4);
      due("HOUR", x.now(0), 0);
      due("THOUGHT", x.now(1), 3);
      due("plan", x.plan(0, 0, 0), 240);
      due("plan", x.plan(1, 0, 0), 240);
    });
    test(5, "PLANS, X, Y, the HOUR, what is THOUGHT as at first, nothing KEPT.", "nothing of the sea before is left", () -> {
      StormHarbours x = Bounds.laid("h9,9,1,15;h9,9,9,0;b8,9,1,1,1;b8,9,1,1,9;s5,0,9,9,24,0;s5,0,9,9,24,3;d0,0,3;g0,0,5;r9,200;w9;");
      x.wipe();
      Bounds.write(x, "h9,9,10,0;b1,9,1,1,1;s10,0,9,9,24,0;");
      due("lay", x.lay(), 1);
      due("HARBOURS", x.count(0), 1);
      due("STORMS", x.count(2), 1);
      due("boats", x.count(3), 1);
      due("miles and w: 20 by 6", x.reach(0, 0, 0, 0), 4);
      due("glass", x.storm(0, 0, 1), 0);
      due("risk", x.risk(0, 0, 0), 0);
      due("open", x.open(0, 0, 0), 1);
      due("THOUGHT", x.now(1), 1);
      due("HARBOUR 1", x.plan(0, 0, 1), BAD);
    });
    test(5, "LAID: how many SORTS", "THE TEXT stays and can be laid again", () -> {
      StormHarbours x = Bounds.laid(WHOLE);
      due("bytes", x.count(4), WHOLE.length());
      due("lay", x.lay(), 1);
      Bounds.write(x, B);
      due("one SORT till it is laid", x.count(1), 1);
      due("lay", x.lay(), 2);
    });
    test(5, "NO else;", "the sea before stays when it is NO", () -> {
      StormHarbours x = Bounds.laid(Bounds.many(2, 3, 4, 2));
      x.plan(2, 7, 1);
      x.keep();
      Bounds.write(x, "x");
      due("lay", x.lay(), NO);
      due("SORTS", x.count(1), 3);
      due("boats", x.count(3), 12);
      due("kept", x.count(5), 1);
      due("plan", x.plan(2, 0, 0), 71);
    });
  }

  public static void main(String[] args) {
    newObject();
    write();
    wipe();
    faultOfNumbers();
    faultOfCounts();
    faultOfForm();
    placeOfFault();
    lay();
    Bounds.end();
  }
}
