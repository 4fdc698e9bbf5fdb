import java.util.Random;

/** Runs of calls drawn by fixed seeds: the program answers as PlainSea does. */
public final class RandomRuns {
  private static final int RUNS = 400;
  private static final int CALLS = 150;
  /** What an object answers later is free. */
  private static final int MOST_CALLS = 512;
  private static int wrong, calls;

  private static final class Both {
    final StormHarbours got = new StormHarbours();
    final PlainSea due = new PlainSea();
    final Random draw;
    final int run;
    /** Calls of the program's object; each is told to same(). */
    int made;

    Both(int run) { this.run = run; draw = new Random(7000 + run); }

    int below(int n) { return draw.nextInt(n); }

    /** Mostly from low to high, now and then just outside or far off. */
    int near(int low, int high) {
      int kind = below(40);
      if (kind == 0) return low - 1;
      if (kind == 1) return high + 1;
      if (kind == 2) return draw.nextInt();
      return low + below(high - low + 1);
    }

    void same(String call, long a, long b) {
      calls++;
      made++;
      if (a != b && wrong++ < 30) System.out.println("run " + run + ": " + call + " answered " + a + ", due is " + b);
    }

    boolean isSpent() { return made >= MOST_CALLS; }

    void tell(String text) {
      for (int at = 0; at < text.length() && !isSpent(); ) {
        int n = Math.min(1 + below(8), text.length() - at);
        long v = draw.nextLong();
        for (int k = 0; k < n; k++) v = v << 8 | text.charAt(at + k);
        at += n;
        same("write " + n, got.write(n, v), due.write(n, v));
      }
    }

    String item(char letter, int... limits) {
      StringBuilder s = new StringBuilder().append(letter);
      for (int k = 0; k < limits.length; k += 2) {
        int v = limits[k] + below(limits[k + 1] - limits[k] + 1);
        if (below(3000) == 0) v = limits[k + 1] + 1;
        s.append(k == 0 ? "" : ",").append(below(60) == 0 && v < 100 ? "0" + v : "" + v);
      }
      return s.append(';').toString();
    }

    String sea() {
      StringBuilder s = new StringBuilder();
      int h = 1 + below(4), b = 1 + below(4), st = 1 + below(4), left = 10;
      for (int k = 0; k < h; k++) s.append(item('h', 1, below(3) == 0 ? 99 : 9, 1, below(2) == 0 ? 9 : 2, 1, 10, 0, 15));
      for (int k = 0; k < b; k++) s.append(item('b', 1, 8, 1, 9, 0, below(2) == 0 ? 99 : 3, 0, 999, 0, below(2) == 0 ? 9 : 2));
      for (int k = 0; k < st; k++) {
        int tenths = k == st - 1 ? left : below(left + 1);
        left -= tenths;
        s.append(item('s', tenths, tenths, 0, below(3) == 0 ? 23 : 8, 1, 9, 0, 9, 0, 24, 0, 3));
      }
      for (int k = below(h * b + 3); k > 0; k--) s.append(item('d', 0, b - 1, 0, h - 1, 1, below(3) == 0 ? 99 : 30));
      for (int k = below(8); k > 0; k--) s.append(item('g', 0, st - 1, 0, below(2) == 0 ? 23 : 8, 0, 9));
      for (int k = below(9); k > 0; k--) s.append(item('r', 1, 9, 0, below(2) == 0 ? 200 : 20));
      if (below(2) == 0) s.append(item('w', 1, 9));
      if (below(12) == 0) {
        int at = below(s.length());
        String odd = ",;hbdsgrwx0123456789 \u00e9";
        if (below(2) == 0) s.deleteCharAt(at); else s.insert(at, odd.charAt(below(odd.length())));
      }
      return s.toString();
    }

    void newSea() {
      same("wipe", got.wipe(), due.wipe());
      tell(sea());
      if (!isSpent()) same("fault", got.fault(), due.fault());
      if (!isSpent()) same("lay", got.lay(), due.lay());
    }

    int i() { return near(0, due.count(1) - 1); }
    int j() { return near(0, due.count(0) - 1); }
    int s() { return near(0, due.count(2) - 1); }
    int t() { return near(0, 23); }
    int u() { return near(0, 24); }
    int rule() { return near(0, 4); }

    void call() {
      int i = i(), j = j(), s = s(), t = t(), u = u(), rule = rule();
      switch (below(32)) {
        case 0: { int w = near(0, 1); same("storm", got.storm(s, t, w), due.storm(s, t, w)); break; }
        case 1: same("open", got.open(j, s, t), due.open(j, s, t)); break;
        case 2: same("risk", got.risk(i, s, t), due.risk(i, s, t)); break;
        case 3: same("reach", got.reach(i, j, s, t), due.reach(i, j, s, t)); break;
        case 4: case 5: case 6: same("plan", got.plan(i, u, j), due.plan(i, u, j)); break;
        case 7: same("value", got.value(s), due.value(s)); break;
        case 8: same("in", got.in(s, i), due.in(s, i)); break;
        case 9: { int n = near(0, 7); same("lives", got.lives(s, i, n), due.lives(s, i, n)); break; }
        case 10: same("mean", got.mean(), due.mean()); break;
        case 11: same("shut", got.shut(s), due.shut(s)); break;
        case 12: { int v = below(2) == 0 ? 0 : near(0, 9); same("sign", got.sign(v), due.sign(v)); break; }
        case 13: { int w = near(0, 3); same("now", got.now(w), due.now(w)); break; }
        case 14: { int w = near(0, 1), v = near(0, w == 1 ? 32 : 9); same("set", got.set(w, v), due.set(w, v)); break; }
        case 15: case 16: same("by " + rule, got.by(rule), due.by(rule)); break;
        case 17: case 18: same("ran " + rule, got.ran(rule, s, i), due.ran(rule, s, i)); break;
        case 19: same("alone", got.alone(i), due.alone(i)); break;
        case 20: case 21: { int set = near(1, (1 << due.count(2)) - 1); same("does", got.does(i, t, set), due.does(i, t, set)); break; }
        case 22: if (below(6) == 0) { boolean own = below(2) == 0; same("better " + own, got.better(own), due.better(own)); } break;
        case 23: same("gun", got.gun(u), due.gun(u)); break;
        case 24: same("bestGun", got.bestGun(), due.bestGun()); break;
        case 25: { int set = near(1, (1 << due.count(1)) - 1); same("convoy", got.convoy(set, t, j), due.convoy(set, t, j)); break; }
        case 26: same("first", got.first(), due.first()); break;
        case 27: { int z = near(0, 9999), w = near(0, 1); same("night", got.night(z, rule, w), due.night(z, rule, w)); break; }
        case 28: same("keep", got.keep(), due.keep()); break;
        case 29: same("back", got.back(), due.back()); break;
        case 30: { int w = near(0, 5); same("count", got.count(w), due.count(w)); break; }
        default: if (below(10) == 0) newSea(); else { int n = near(1, 8); long v = draw.nextLong(); same("write", got.write(n, v), due.write(n, v)); }
      }
    }
  }

  /** Seas in which EACH for itself comes to no rest: the PLANS of the last round stand. */
  private static final String[] RESTLESS = {
      "h3,1,2,2;b4,1,6,55,4;b1,4,3,69,4;d0,0,1;d1,0,16;s10,6,9,9,18,0;r9,86;r5,79;r3,5;",
      "h3,1,9,6;b4,6,3,164,4;b4,5,2,141,0;b4,4,8,286,3;d0,0,14;d1,0,10;d2,0,2;s10,4,3,5,13,2;r9,28;r5,89;",
      "h4,1,8,0;h4,1,4,10;b2,9,3,72,3;b4,4,7,122,2;b1,6,2,4,0;d0,0,8;d0,1,12;d1,0,8;d1,1,17;d2,0,13;d2,1,2;s10,7,4,9,18,3;r9,126;r5,165;",
      "h3,2,3,2;h4,1,5,6;b2,6,3,291,3;b2,9,7,256,2;b2,6,5,152,3;d0,0,16;d0,1,15;d1,0,10;d1,1,16;d2,0,20;d2,1,3;s10,7,4,9,10,2;r9,100;r5,39;",
      "h3,2,6,5;b2,8,3,107,3;b2,4,8,269,0;b2,6,5,149,3;d0,0,20;d1,0,2;d2,0,15;s10,6,1,9,15,2;r9,187;r5,81;",
      "h3,1,5,0;b4,6,1,28,3;b2,2,3,276,4;b2,7,5,126,4;d0,0,16;d1,0,17;d2,0,15;s10,6,7,9,6,2;r9,146;r5,118;"};

  private static void restless() {
    for (int k = 0; k < RESTLESS.length; k++) {
      Both both = new Both(-1 - k);
      both.tell(RESTLESS[k]);
      both.same("lay", both.got.lay(), both.due.lay());
      both.same("better, restless", both.got.better(true), PlainSea.NONE);
      both.due.better(true);
      both.same("mean, restless", both.got.mean(), both.due.mean());
      for (int i = 0; i < both.due.count(1); i++) both.same("plan, restless", both.got.ran(0, 0, i), both.due.ran(0, 0, i));
    }
  }

  public static void main(String[] args) {
    restless();
    for (int run = 0; run < RUNS; run++) {
      Both both = new Both(run);
      if (run % 10 != 0) both.newSea();
      for (int k = 0; k < CALLS && !both.isSpent(); k++) both.call();
    }
    System.out.println((calls - wrong) + " passed, " + wrong + " failed");
    if (wrong != 0) System.exit(1);
  }
}
