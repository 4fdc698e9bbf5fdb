import java.lang.reflect.Constructor;
import java.lang.reflect.Field;
import java.lang.reflect.Method;
import java.lang.reflect.Modifier;
import java.util.Set;
import java.util.TreeSet;

/** The public face is the document's and no more, and no method inside bears one of its names. */
public final class FaceTests {
  private static final String[] FACE = {
      "int write(int,long)", "int wipe()", "int fault()", "int lay()", "int storm(int,int,int)", "int open(int,int,int)",
      "int risk(int,int,int)", "int reach(int,int,int,int)", "int plan(int,int,int)", "long value(int)", "int in(int,int)",
      "int lives(int,int,int)", "long mean()", "int shut(int)", "int sign(int)", "int now(int)", "int set(int,int)", "long by(int)",
      "int ran(int,int,int)", "long alone(int)", "int does(int,int,int)", "int better(boolean)", "long gun(int)", "int bestGun()",
      "long convoy(int,int,int)", "long first()", "long night(int,int,int)", "int keep()", "int back()", "int count(int)"};

  private static int right, wrong;

  private static void check(String what, boolean is) {
    if (is) {
      right++;
    } else {
      wrong++;
      System.out.println("not so: " + what);
    }
  }

  private static String told(Method m) {
    StringBuilder s = new StringBuilder(m.getReturnType().getName()).append(' ').append(m.getName()).append('(');
    for (Class<?> type : m.getParameterTypes()) s.append(s.charAt(s.length() - 1) == '(' ? "" : ",").append(type.getName());
    return s.append(')').toString();
  }

  public static void main(String[] args) {
    Class<?> c = StormHarbours.class;
    check("the class is public and final", Modifier.isPublic(c.getModifiers()) && Modifier.isFinal(c.getModifiers()));
    Set<String> got = new TreeSet<>(), names = new TreeSet<>();
    for (Method m : c.getDeclaredMethods()) {
      if (!Modifier.isPrivate(m.getModifiers())) {
        got.add(told(m));
        names.add(m.getName());
      }
    }
    check("methods " + got, got.equals(new TreeSet<>(Set.of(FACE))));
    Set<String> open = new TreeSet<>();
    for (Field f : c.getDeclaredFields()) {
      if (!Modifier.isPrivate(f.getModifiers())) open.add(f.getName());
      check("static field " + f + " is final", !Modifier.isStatic(f.getModifiers()) || Modifier.isFinal(f.getModifiers()));
    }
    check("constants " + open, open.equals(new TreeSet<>(Set.of("BAD", "NO", "FULL", "NONE"))));
    Constructor<?>[] made = c.getDeclaredConstructors();
    check("one constructor", made.length == 1 && made[0].getParameterCount() == 0 && Modifier.isPublic(made[0].getModifiers()));
    for (Method m : c.getDeclaredMethods()) {
      check("private " + m, !Modifier.isPrivate(m.getModifiers()) || !names.contains(m.getName()));
      check("no throws at " + m, m.getExceptionTypes().length == 0);
    }
    for (Class<?> inside : c.getDeclaredClasses()) {
      check(inside + " is static", Modifier.isStatic(inside.getModifiers()));
      check(inside + " is not public", !Modifier.isPublic(inside.getModifiers()));
      for (Method m : inside.getDeclaredMethods()) check("the face's name at " + m, !names.contains(m.getName()));
    }
    System.out.println(right + " passed, " + wrong + " failed");
    if (wrong != 0) System.exit(1);
  }
}
