import java.util.ArrayList;
import java.util.Comparator;
import java.util.List;
import java.util.regex.Matcher;
import java.util.regex.Pattern;

/**
 * A second telling of the document, boat by boat and without any short cut, against which
 * RandomRuns holds the program. It shares no code and no way of reckoning with it.
 */
final class PlainSea {
  static final int BAD = -1, NO = -2, FULL = -3, NONE = -4;
  static final long LEAST = Long.MIN_VALUE;

  private record Laid(List<int[]> harbours, List<int[]> sorts, List<int[]> storms,
      int[][] miles, int[][] glass, int[] loss, int[] slow) { }

  private record Kept(int[] hours, int[] ports, int x, int y, int hour, List<Integer> thought) { }

  private static final class Boat {
    int sort, number, hour, port, speed, made, came = -1;
    long lives = 1000000, fish;
    boolean safe;
  }

  private String text = "";
  private Laid laid;
  private int[] hours, ports;
  private int x, y, hour;
  private List<Integer> thought;
  private List<Kept> kept = new ArrayList<>();

  PlainSea() {
    text = "h9,9,10,0;b1,5,1,10,1;s10,0,1,0,0,0;";
    lay();
    text = "";
  }

  int write(int n, long v) {
    if (n < 1 || n > 8) return BAD;
    if (text.length() + n > 500) return FULL;
    StringBuilder more = new StringBuilder();
    for (int k = 0; k < n; k++) { more.insert(0, (char) (v & 255)); v >>= 8; }
    text += more;
    return text.length();
  }

  int wipe() { int n = text.length(); text = ""; return n; }

  private static boolean within(int[] n, int... limits) {
    for (int k = 0; k < n.length; k++) if (n[k] < limits[2 * k] || n[k] > limits[2 * k + 1]) return false;
    return true;
  }

  private static boolean take(Laid sea, char letter, int[] n) {
    int h = sea.harbours.size(), b = sea.sorts.size(), s = sea.storms.size();
    switch (letter) {
      case 'h':
        if (n.length != 4 || !within(n, 1, 99, 1, 9, 1, 10, 0, 15) || h == 4) return false;
        return sea.harbours.add(n);
      case 'b':
        if (n.length != 5 || !within(n, 1, 8, 1, 9, 0, 99, 0, 999, 0, 9) || b == 4) return false;
        return sea.sorts.add(n);
      case 'd':
        if (n.length != 3 || !within(n, 0, b - 1, 0, h - 1, 1, 99)) return false;
        sea.miles[n[0]][n[1]] = n[2];
        return true;
      case 's':
        if (n.length != 6 || !within(n, 0, 10, 0, 23, 1, 9, 0, 9, 0, 24, 0, 3) || s == 4) return false;
        return sea.storms.add(n);
      case 'g':
        if (n.length != 3 || !within(n, 0, s - 1, 0, 23, 0, 9)) return false;
        sea.glass[n[0]][n[1]] = n[2];
        return true;
      case 'r':
        if (n.length != 2 || !within(n, 1, 9, 0, 200)) return false;
        sea.loss[n[0]] = n[1];
        return true;
      default:
        if (n.length != 1 || !within(n, 1, 9)) return false;
        sea.slow[0] = n[0];
        return true;
    }
  }

  private static final Pattern ITEM = Pattern.compile("([hbdsgrw])([0-9]{1,3}(?:,[0-9]{1,3})*);");

  private int read(Laid sea) {
    for (int[] row : sea.miles) java.util.Arrays.fill(row, 20);
    sea.slow[0] = 3;
    int at = 0;
    Matcher m = ITEM.matcher(text);
    while (at < text.length()) {
      m.region(at, text.length());
      if (!m.lookingAt()) return at;
      String[] parts = m.group(2).split(",");
      int[] n = new int[parts.length];
      for (int k = 0; k < n.length; k++) n[k] = Integer.parseInt(parts[k]);
      if (!take(sea, m.group(1).charAt(0), n)) return at;
      at = m.end();
    }
    return NONE;
  }

  private static Laid blank() {
    return new Laid(new ArrayList<>(), new ArrayList<>(), new ArrayList<>(),
        new int[4][4], new int[4][24], new int[10], new int[1]);
  }

  int fault() { return read(blank()); }

  int lay() {
    Laid sea = blank();
    if (read(sea) != NONE) return NO;
    int tenths = sea.storms.stream().mapToInt(s -> s[0]).sum();
    if (sea.harbours.isEmpty() || sea.sorts.isEmpty() || tenths != 10) return NO;
    laid = sea;
    hours = new int[] {24, 24, 24, 24};
    ports = new int[4];
    x = 3; y = 4; hour = 0;
    thought = new ArrayList<>();
    for (int s = 0; s < sea.storms.size(); s++) thought.add(s);
    kept = new ArrayList<>();
    return sea.sorts.size();
  }

  private boolean noStorm(int s) { return s < 0 || s >= laid.storms.size(); }
  private boolean noSort(int i) { return i < 0 || i >= laid.sorts.size(); }
  private boolean noPort(int j) { return j < 0 || j >= laid.harbours.size(); }
  private static boolean noHour(int t) { return t < 0 || t > 23; }

  private int strength(int s, int t) {
    int[] st = laid.storms.get(s);
    if (t < st[1] || t >= st[1] + st[4]) return 0;
    return Math.min(st[3], st[2] * (t - st[1] + 1));
  }

  private boolean isOpen(int j, int s, int t) {
    int[] h = laid.harbours.get(j);
    return strength(s, t) < h[2] || (h[3] & (1 << laid.storms.get(s)[5])) == 0;
  }

  private int danger(int i, int s, int t) {
    return Math.min(999, laid.loss[strength(s, t)] * laid.sorts.get(i)[4]);
  }

  int storm(int s, int t, int what) {
    if (noStorm(s) || noHour(t) || what != 0 && what != 1) return BAD;
    return what == 0 ? strength(s, t) : laid.glass[s][t];
  }

  int open(int j, int s, int t) {
    if (noPort(j) || noStorm(s) || noHour(t)) return BAD;
    return isOpen(j, s, t) ? 1 : 0;
  }

  int risk(int i, int s, int t) {
    if (noSort(i) || noStorm(s) || noHour(t)) return BAD;
    return danger(i, s, t);
  }

  private Boat boat(int i, int n, int u, int j, int speed) {
    Boat b = new Boat();
    b.sort = i; b.number = n; b.hour = u; b.port = j; b.speed = speed;
    return b;
  }

  /** One HOUR for all boats; the MOUTHS first. */
  private void pass(List<Boat> boats, int s, int t, Comparator<Boat> order, boolean asked) {
    for (int j = 0; j < laid.harbours.size(); j++) {
      if (!isOpen(j, s, t)) continue;
      int port = j;
      long inside = boats.stream().filter(b -> b.safe && b.port == port).count();
      List<Boat> there = new ArrayList<>(boats.stream().filter(b -> !b.safe && b.port == port && b.came >= 0).toList());
      there.sort(order);
      int gone = 0;
      for (Boat b : there) {
        if (asked && (gone >= laid.harbours.get(j)[1] || inside >= laid.harbours.get(j)[0])) break;
        b.safe = true;
        gone++;
        inside++;
      }
    }
    for (Boat b : boats) {
      if (b.safe) continue;
      if (t < b.hour) {
        b.fish += laid.sorts.get(b.sort)[2] * b.lives;
      } else if (b.came < 0) {
        b.made += Math.max(1, b.speed - strength(s, t) / laid.slow[0]);
        if (b.made >= laid.miles[b.sort][b.port]) b.came = t + 1;
      }
      b.lives = b.lives * (1000 - danger(b.sort, s, t)) / 1000;
    }
  }

  private static final Comparator<Boat> TOLD =
      Comparator.<Boat>comparingInt(b -> b.came).thenComparingInt(b -> b.sort).thenComparingInt(b -> b.number);

  private List<Boat> sail(int s, int[] us, int[] js, int convoy, boolean first) {
    int least = 99;
    for (int i = 0; i < laid.sorts.size(); i++) if ((convoy >> i & 1) == 1) least = Math.min(least, laid.sorts.get(i)[1]);
    List<Boat> boats = new ArrayList<>();
    for (int i = 0; i < laid.sorts.size(); i++) {
      for (int n = 0; n < laid.sorts.get(i)[0]; n++) {
        boats.add(boat(i, n, us[i], js[i], (convoy >> i & 1) == 1 ? least : laid.sorts.get(i)[1]));
      }
    }
    Comparator<Boat> dear = Comparator.comparingInt(b -> -laid.sorts.get(b.sort)[3] * laid.sorts.get(b.sort)[4]);
    Comparator<Boat> order = first ? dear.thenComparing(TOLD) : TOLD;
    for (int t = 0; t < 24; t++) pass(boats, s, t, order, true);
    return boats;
  }

  private long worth(List<Boat> boats) {
    long sum = 0;
    for (Boat b : boats) sum += b.fish - laid.sorts.get(b.sort)[3] * (1000000 - b.lives);
    return sum;
  }

  private long mean(int[] us, int[] js, int convoy, boolean first, int only) {
    long sum = 0;
    for (int s : thought) {
      List<Boat> boats = sail(s, us, js, convoy, first);
      if (only >= 0) boats = boats.stream().filter(b -> b.sort == only).toList();
      sum += laid.storms.get(s)[0] * worth(boats);
    }
    return sum;
  }

  int reach(int i, int j, int s, int u) {
    if (noSort(i) || noPort(j) || noStorm(s) || noHour(u)) return BAD;
    int t = u;
    for (int made = 0; made < laid.miles[i][j] && t < 24; t++) {
      made += Math.max(1, laid.sorts.get(i)[1] - strength(s, t) / laid.slow[0]);
      if (t == 23) return NONE;
    }
    return t;
  }

  int plan(int i, int u, int j) {
    if (noSort(i) || u < 0 || u > 24 || noPort(j)) return BAD;
    int was = 10 * hours[i] + ports[i];
    hours[i] = u;
    ports[i] = j;
    return was;
  }

  long value(int s) { return noStorm(s) ? LEAST : worth(sail(s, hours, ports, 0, false)); }

  int in(int s, int i) {
    if (noStorm(s) || noSort(i)) return BAD;
    return (int) sail(s, hours, ports, 0, false).stream().filter(b -> b.sort == i && b.safe).count();
  }

  int lives(int s, int i, int n) {
    if (noStorm(s) || noSort(i) || n < 0 || n >= laid.sorts.get(i)[0]) return BAD;
    return (int) sail(s, hours, ports, 0, false).stream().filter(b -> b.sort == i && b.number == n).findFirst().get().lives;
  }

  long mean() { return mean(hours, ports, 0, false, -1); }

  int shut(int s) {
    if (noStorm(s)) return BAD;
    for (Boat b : sail(s, hours, ports, 0, false)) if (b.hour < 24 && !b.safe) return 10 * b.sort + b.number;
    return NONE;
  }

  private int bits(List<Integer> set) { return set.stream().mapToInt(s -> 1 << s).sum(); }

  int sign(int v) {
    if (v < 0 || v > 9) return BAD;
    if (hour == 24) return NO;
    List<Integer> stay = thought.stream().filter(s -> laid.glass[s][hour] == v).toList();
    if (stay.isEmpty()) return NO;
    thought = stay;
    hour++;
    return bits(stay);
  }

  int now(int what) {
    return what == 0 ? hour : what == 1 ? bits(thought) : what == 2 ? x : what == 3 ? y : BAD;
  }

  int set(int what, int v) {
    int was;
    if (what == 0) {
      if (v < 0 || v > 9) return BAD;
      was = x;
      x = v;
    } else if (what == 1) {
      if (v < 1 || v > 32) return BAD;
      was = y;
      y = v;
    } else {
      return BAD;
    }
    return was;
  }

  private int nearest(int i) {
    int best = 0;
    for (int j = 0; j < laid.harbours.size(); j++) if (laid.miles[i][j] < laid.miles[i][best]) best = j;
    return best;
  }

  /** One boat that has the sea for itself. */
  private Boat single(int i, int s, int u, int j) {
    Boat b = boat(i, 0, u, j, laid.sorts.get(i)[1]);
    for (int t = 0; t < 24; t++) pass(List.of(b), s, t, TOLD, false);
    return b;
  }

  private int likeliest(int i, int u) {
    int best = -1, most = -1;
    for (int j = 0; j < laid.harbours.size(); j++) {
      int sum = 0;
      for (int s : thought) if (single(i, s, u, j).safe) sum += laid.storms.get(s)[0];
      if (sum > most || sum == most && laid.miles[i][j] < laid.miles[i][best]) { most = sum; best = j; }
    }
    return best;
  }

  private int[][] byRule(int rule, int s) {
    if (rule == 0) return new int[][] {hours.clone(), ports.clone()};
    int[][] made = {{24, 24, 24, 24}, {0, 0, 0, 0}};
    int goneAhead = 0;
    for (int t = 0; t < 24 && rule != 4; t++) {
      int gone = 0;
      for (int i = 0; i < laid.sorts.size(); i++) {
        if (made[0][i] < 24) continue;
        boolean runs = rule == 2 && i > 0 ? goneAhead >= y : laid.glass[s][t] >= x;
        if (!runs) continue;
        made[0][i] = t;
        made[1][i] = rule == 3 ? likeliest(i, t) : nearest(i);
        gone += laid.sorts.get(i)[0];
      }
      goneAhead += gone;
    }
    return made;
  }

  private long worthBy(int rule, int s) {
    int[][] made = byRule(rule, s);
    return worth(sail(s, made[0], made[1], 0, false));
  }

  long by(int rule) {
    if (rule < 0 || rule > 4) return LEAST;
    long sum = 0;
    for (int s : thought) sum += laid.storms.get(s)[0] * worthBy(rule, s);
    return sum;
  }

  int ran(int rule, int s, int i) {
    if (rule < 0 || rule > 4 || noStorm(s) || noSort(i)) return BAD;
    int[][] made = byRule(rule, s);
    return made[0][i] == 24 ? 240 : 10 * made[0][i] + made[1][i];
  }

  private long sumOf(int i, List<Integer> set, int u, int j) {
    long sum = 0;
    for (int s : set) sum += laid.storms.get(s)[0] * worth(List.of(single(i, s, u, j)));
    return sum;
  }

  private long parted(int i, int t, List<Integer> set) {
    if (t == 24) return sumOf(i, set, 24, 0);
    long sum = 0;
    for (int v = 0; v < 10; v++) {
      int told = v;
      List<Integer> group = set.stream().filter(s -> laid.glass[s][t] == told).toList();
      if (group.isEmpty()) continue;
      long most = parted(i, t + 1, group);
      for (int j = 0; j < laid.harbours.size(); j++) most = Math.max(most, sumOf(i, group, t, j));
      sum += most;
    }
    return sum;
  }

  private List<Integer> all() {
    List<Integer> set = new ArrayList<>();
    for (int s = 0; s < laid.storms.size(); s++) set.add(s);
    return set;
  }

  long alone(int i) { return noSort(i) ? LEAST : parted(i, 0, all()); }

  int does(int i, int t, int bits) {
    if (noSort(i) || noHour(t) || bits < 1 || bits >= 1 << laid.storms.size()) return BAD;
    List<Integer> set = all().stream().filter(s -> (bits >> s & 1) == 1).toList();
    int best = 0;
    long most = parted(i, t + 1, set);
    for (int j = 0; j < laid.harbours.size(); j++) {
      long sum = sumOf(i, set, t, j);
      if (sum > most) { most = sum; best = j + 1; }
    }
    return best;
  }

  int better(boolean own) {
    for (int round = 1; round <= 6; round++) {
      boolean changed = false;
      for (int i = 0; i < laid.sorts.size(); i++) {
        long had = mean(hours, ports, 0, false, own ? i : -1), most = had;
        int bestU = hours[i], bestJ = ports[i];
        int[] us = hours.clone(), js = ports.clone();
        for (us[i] = 0; us[i] <= 24; us[i]++) {
          for (js[i] = 0; js[i] < laid.harbours.size(); js[i]++) {
            long sum = mean(us, js, 0, false, own ? i : -1);
            if (sum > most) { most = sum; bestU = us[i]; bestJ = js[i]; }
          }
        }
        changed |= most > had;
        hours[i] = bestU;
        ports[i] = bestJ;
      }
      if (!changed) return round;
    }
    return NONE;
  }

  long gun(int u) {
    if (u < 0 || u > 24) return LEAST;
    int[] us = {u, u, u, u}, js = new int[4];
    for (int i = 0; i < laid.sorts.size(); i++) js[i] = nearest(i);
    return mean(us, js, 0, false, -1);
  }

  int bestGun() {
    int best = 0;
    for (int u = 0; u <= 24; u++) if (gun(u) > gun(best)) best = u;
    return best;
  }

  long convoy(int sorts, int u, int j) {
    if (sorts < 1 || sorts >= 1 << laid.sorts.size() || noHour(u) || noPort(j)) return LEAST;
    int[] us = hours.clone(), js = ports.clone();
    for (int i = 0; i < 4; i++) if ((sorts >> i & 1) == 1) { us[i] = u; js[i] = j; }
    return mean(us, js, sorts, false, -1);
  }

  long first() { return mean(hours, ports, 0, true, -1); }

  long night(int z, int rule, int what) {
    if (z < 0 || z > 9999 || rule < 0 || rule > 4 || what < 0 || what > 1) return LEAST;
    long draw = (7919L * z + 1) * (7919L * z + 1) % 65521 % 10;
    int s = 0;
    for (int sum = laid.storms.get(0)[0]; draw >= sum; sum += laid.storms.get(s)[0]) s++;
    return what == 0 ? s : worthBy(rule, s);
  }

  int keep() {
    if (kept.size() == 2) return FULL;
    kept.add(new Kept(hours.clone(), ports.clone(), x, y, hour, thought));
    return kept.size();
  }

  int back() {
    if (kept.isEmpty()) return NO;
    Kept k = kept.remove(kept.size() - 1);
    hours = k.hours; ports = k.ports; x = k.x; y = k.y; hour = k.hour; thought = k.thought;
    return kept.size();
  }

  int count(int what) {
    switch (what) {
      case 0: return laid.harbours.size();
      case 1: return laid.sorts.size();
      case 2: return laid.storms.size();
      case 3: return laid.sorts.stream().mapToInt(b -> b[0]).sum();
      case 4: return text.length();
      case 5: return kept.size();
      default: return BAD;
    }
  }
}
