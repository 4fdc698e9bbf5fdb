import java.util.ArrayList;
import java.util.List;
import java.util.function.Supplier;
import java.util.function.ToLongFunction;

/**
 * "nothing changes then": behind each call that is refused, an object answers all that can be asked
 * as its twin does, that was not called. So it does behind each call that asks alone.
 */
public final class RefusedCalls {
  private static final int BAD = Bounds.BAD, NO = Bounds.NO, FULL = Bounds.FULL, NONE = Bounds.NONE;
  private static final long LEAST = Bounds.LEAST;
  private static final String QUOTE = "Of several the first; nothing changes then.";

  private static final String BAY = "h2,1,3,1;h9,9,10,0;b3,5,2,10,1;b1,4,0,100,2;d0,0,10;d0,1,30;d1,0,10;"
      + "s5,2,2,4,20,0;s5,0,1,0,0,1;g0,1,5;r2,100;r4,200;w2;";

  /** A sea in which nothing is as at first, one KEPT, one HOUR on. */
  private static StormHarbours busy() {
    StormHarbours x = Bounds.laid(BAY);
    x.plan(0, 4, 1);
    x.plan(1, 24, 1);
    x.set(0, 5);
    x.set(1, 3);
    x.keep();
    x.plan(0, 1, 0);
    x.plan(1, 2, 0);
    x.set(0, 4);
    x.set(1, 2);
    x.sign(0);
    return x;
  }

  private static StormHarbours keptFull() {
    StormHarbours x = busy();
    x.keep();
    x.plan(0, 9, 1);
    return x;
  }

  private static StormHarbours keptNone() {
    StormHarbours x = busy();
    x.back();
    x.plan(0, 9, 1);
    return x;
  }

  private static StormHarbours atEnd() {
    StormHarbours x = busy();
    x.sign(5);
    for (int t = 2; t < 24; t++) x.sign(0);
    return x;
  }

  private static StormHarbours withMore(String more) {
    StormHarbours x = busy();
    Bounds.write(x, more);
    return x;
  }

  private static StormHarbours withOther(String text) {
    StormHarbours x = busy();
    x.wipe();
    Bounds.write(x, text);
    return x;
  }

  private static StormHarbours filled(int bytes) {
    StormHarbours x = busy();
    StringBuilder more = new StringBuilder();
    for (int k = x.count(4); k < bytes; k++) more.append('x');
    Bounds.write(x, more.toString());
    return x;
  }

  /** All that can be asked; what is KEPT and what could be LAID last, as asking for it changes it. */
  private static List<Long> reading(StormHarbours x) {
    List<Long> all = new ArrayList<>();
    for (int what = 0; what < 6; what++) all.add((long) x.count(what));
    all.add((long) x.fault());
    standing(x, all);
    for (int t = 0; t < 6; t++) {
      for (int s = 0; s < 2; s++) {
        all.add((long) x.storm(s, t, 0));
        all.add((long) x.storm(s, t, 1));
        for (int k = 0; k < 2; k++) {
          all.add((long) x.open(k, s, t));
          all.add((long) x.risk(k, s, t));
          all.add((long) x.reach(k, t % 2, s, t));
        }
      }
    }
    for (int i = 0; i < 2; i++) {
      all.add(x.alone(i));
      all.add((long) x.does(i, 1, 3));
      plan(x, i, all);
    }
    for (int k = 0; k < 3; k++) {
      all.add((long) x.back());
      standing(x, all);
      for (int i = 0; i < 2; i++) plan(x, i, all);
    }
    all.add((long) x.write(1, '#'));
    all.add((long) x.wipe());
    all.add((long) x.lay());
    return all;
  }

  private static void standing(StormHarbours x, List<Long> all) {
    for (int what = 0; what < 4; what++) all.add((long) x.now(what));
    for (int rule = 0; rule <= 4; rule++) {
      all.add(x.by(rule));
      for (int s = 0; s < 2; s++) for (int i = 0; i < 2; i++) all.add((long) x.ran(rule, s, i));
    }
    for (int s = 0; s < 2; s++) {
      all.add(x.value(s));
      all.add((long) x.shut(s));
      for (int i = 0; i < 2; i++) all.add((long) x.in(s, i));
    }
    all.add(x.mean());
    all.add(x.first());
    all.add(x.gun(3));
    // A convoy's way is reckoned anew, by what is LAID, and not as lay left it.
    all.add(x.convoy(3, 2, 1));
  }

  private static void plan(StormHarbours x, int i, List<Long> all) {
    int was = x.plan(i, 24, 0);
    all.add((long) was);
    x.plan(i, was / 10, was % 10);
  }

  private static void refused(int promise, String call, Supplier<StormHarbours> made, ToLongFunction<StormHarbours> called, long answer) {
    Bounds.test(promise, QUOTE, call, () -> {
      StormHarbours x = made.get();
      Bounds.due(call, called.applyAsLong(x), answer);
      Bounds.due(call + " again", called.applyAsLong(x), answer);
      List<Long> got = reading(x), want = reading(made.get());
      for (int k = 0; k < want.size(); k++) Bounds.due("behind it, question " + k, got.get(k), want.get(k));
    });
  }

  private static void asked(int promise, String call, ToLongFunction<StormHarbours> called) {
    Bounds.test(promise, "Nothing is promised beyond the answers and state changes described above", call + " changes nothing", () -> {
      StormHarbours x = busy();
      long answer = called.applyAsLong(x);
      Bounds.due(call + " again", called.applyAsLong(x), answer);
      List<Long> got = reading(x), want = reading(busy());
      for (int k = 0; k < want.size(); k++) Bounds.due("behind it, question " + k, got.get(k), want.get(k));
    });
  }

  private static void questions() {
    asked(4, "fault", x -> x.fault());
    asked(6, "storm", x -> x.storm(1, 23, 1));
    asked(7, "open", x -> x.open(1, 1, 23));
    asked(8, "risk", x -> x.risk(1, 1, 23));
    asked(9, "reach", x -> x.reach(1, 1, 1, 0));
    asked(11, "value", x -> x.value(1));
    asked(12, "in", x -> x.in(1, 1));
    asked(13, "lives", x -> x.lives(1, 0, 2));
    asked(14, "mean", x -> x.mean());
    asked(15, "shut", x -> x.shut(0));
    asked(17, "now", x -> x.now(3));
    for (int rule = 0; rule <= 4; rule++) {
      int r = rule;
      asked(19, "by(" + r + ")", x -> x.by(r));
      asked(20, "ran by " + r, x -> x.ran(r, 0, 1));
      asked(28, "night by " + r, x -> x.night(4, r, 1));
    }
    asked(21, "alone", x -> x.alone(1));
    asked(22, "does", x -> x.does(1, 0, 3));
    asked(24, "gun", x -> x.gun(0));
    asked(25, "bestGun", x -> x.bestGun());
    asked(26, "convoy", x -> x.convoy(3, 0, 1));
    asked(27, "first", x -> x.first());
    asked(31, "count", x -> x.count(5));
  }

  private static void seas() {
    refused(2, "write(0)", RefusedCalls::busy, x -> x.write(0, 'w'), BAD);
    refused(2, "write(-1)", RefusedCalls::busy, x -> x.write(-1, 'w'), BAD);
    refused(2, "write(9)", RefusedCalls::busy, x -> x.write(9, 'w'), BAD);
    refused(2, "write(1) to 501", () -> filled(500), x -> x.write(1, 'w'), FULL);
    refused(2, "write(8) to 501", () -> filled(493), x -> x.write(8, 'w'), FULL);
    refused(2, "write(9), full", () -> filled(500), x -> x.write(9, 'w'), BAD);
    refused(4, "fault(), there is none", RefusedCalls::busy, x -> x.fault(), NONE);
    refused(4, "fault(), there is one", () -> withMore("w0;"), x -> x.fault(), BAY.length());
    refused(5, "lay() of a TEXT with FAULT", () -> withMore("x"), x -> x.lay(), NO);
    refused(5, "lay() of an empty TEXT", () -> withOther(""), x -> x.lay(), NO);
    refused(5, "lay() without HARBOUR", () -> withOther("b8,9,9,9,9;s10,0,9,9,24,0;r9,9;w9;"), x -> x.lay(), NO);
    refused(5, "lay() without SORT", () -> withOther("h1,1,1,15;s10,0,9,9,24,0;r9,9;w9;"), x -> x.lay(), NO);
    refused(5, "lay() without STORM", () -> withOther("h1,1,1,15;b8,9,9,9,9;d0,0,1;r9,9;w9;"), x -> x.lay(), NO);
    refused(5, "lay() of 9 tenths", () -> withOther("h1,1,1,15;b8,9,9,9,9;s9,0,9,9,24,0;g0,0,9;r9,9;w9;"), x -> x.lay(), NO);
    refused(5, "lay() of 11 tenths", () -> withMore("s1,0,9,9,24,0;"), x -> x.lay(), NO);
    refused(6, "storm of no STORM", RefusedCalls::busy, x -> x.storm(2, 0, 0), BAD);
    refused(7, "open of no HARBOUR", RefusedCalls::busy, x -> x.open(2, 0, 0), BAD);
    refused(8, "risk of no SORT", RefusedCalls::busy, x -> x.risk(2, 0, 0), BAD);
    refused(9, "reach at 24", RefusedCalls::busy, x -> x.reach(0, 0, 0, 24), BAD);
    refused(9, "reach, not in time", RefusedCalls::busy, x -> x.reach(0, 0, 0, 23), NONE);
  }

  private static void plans() {
    refused(10, "plan of no SORT", RefusedCalls::busy, x -> x.plan(2, 7, 1), BAD);
    refused(10, "plan of SORT -1", RefusedCalls::busy, x -> x.plan(-1, 7, 1), BAD);
    refused(10, "plan at 25", RefusedCalls::busy, x -> x.plan(0, 25, 1), BAD);
    refused(10, "plan at -1", RefusedCalls::busy, x -> x.plan(0, -1, 1), BAD);
    refused(10, "plan to no HARBOUR", RefusedCalls::busy, x -> x.plan(0, 7, 2), BAD);
    refused(10, "plan to HARBOUR -1", RefusedCalls::busy, x -> x.plan(0, 7, -1), BAD);
    refused(10, "plan to no HARBOUR, never", RefusedCalls::busy, x -> x.plan(0, 24, 2), BAD);
    refused(11, "value of no STORM", RefusedCalls::busy, x -> x.value(2), LEAST);
    refused(12, "in of no SORT", RefusedCalls::busy, x -> x.in(0, 2), BAD);
    refused(13, "lives of no boat", RefusedCalls::busy, x -> x.lives(0, 1, 1), BAD);
    refused(15, "shut of no STORM", RefusedCalls::busy, x -> x.shut(2), BAD);
    refused(15, "shut, there is none", () -> withPlan(24), x -> x.shut(1), NONE);
  }

  private static StormHarbours withPlan(int u) {
    StormHarbours x = busy();
    x.plan(0, u, 0);
    x.plan(1, u, 0);
    return x;
  }

  private static void signsAndRules() {
    refused(16, "sign(10)", RefusedCalls::busy, x -> x.sign(10), BAD);
    refused(16, "sign(-1)", RefusedCalls::busy, x -> x.sign(-1), BAD);
    refused(16, "sign, none would stay", RefusedCalls::busy, x -> x.sign(7), NO);
    refused(16, "sign at 24", RefusedCalls::atEnd, x -> x.sign(0), NO);
    refused(16, "sign(10) at 24", RefusedCalls::atEnd, x -> x.sign(10), BAD);
    refused(17, "now(4)", RefusedCalls::busy, x -> x.now(4), BAD);
    refused(18, "set(0, 10)", RefusedCalls::busy, x -> x.set(0, 10), BAD);
    refused(18, "set(0, -1)", RefusedCalls::busy, x -> x.set(0, -1), BAD);
    refused(18, "set(1, 0)", RefusedCalls::busy, x -> x.set(1, 0), BAD);
    refused(18, "set(1, 33)", RefusedCalls::busy, x -> x.set(1, 33), BAD);
    refused(18, "set(2, 5)", RefusedCalls::busy, x -> x.set(2, 5), BAD);
    refused(18, "set(-1, 5)", RefusedCalls::busy, x -> x.set(-1, 5), BAD);
    refused(19, "by(5)", RefusedCalls::busy, x -> x.by(5), LEAST);
    refused(20, "ran by no RULE", RefusedCalls::busy, x -> x.ran(5, 0, 0), BAD);
  }

  private static void betters() {
    refused(21, "alone of no SORT", RefusedCalls::busy, x -> x.alone(2), LEAST);
    refused(22, "does with no STORMS", RefusedCalls::busy, x -> x.does(0, 0, 0), BAD);
    refused(22, "does with STORMS that there are not", RefusedCalls::busy, x -> x.does(0, 0, 4), BAD);
    refused(24, "gun(25)", RefusedCalls::busy, x -> x.gun(25), LEAST);
    refused(26, "convoy at 24", RefusedCalls::busy, x -> x.convoy(1, 24, 0), LEAST);
    refused(26, "convoy of no such SORTS", RefusedCalls::busy, x -> x.convoy(4, 3, 0), LEAST);
    refused(26, "convoy to no HARBOUR", RefusedCalls::busy, x -> x.convoy(1, 3, 2), LEAST);
    refused(28, "night(10000)", RefusedCalls::busy, x -> x.night(10000, 0, 0), LEAST);
    refused(28, "night by no RULE", RefusedCalls::busy, x -> x.night(0, 5, 1), LEAST);
    refused(29, "keep, two are kept", RefusedCalls::keptFull, x -> x.keep(), FULL);
    refused(30, "back, none is kept", RefusedCalls::keptNone, x -> x.back(), NO);
    refused(31, "count(6)", RefusedCalls::busy, x -> x.count(6), BAD);
  }

  public static void main(String[] args) {
    seas();
    plans();
    signsAndRules();
    betters();
    questions();
    Bounds.end();
  }
}
