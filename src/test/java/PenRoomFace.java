import java.lang.reflect.Constructor;
import java.lang.reflect.Field;
import java.lang.reflect.Method;
import java.lang.reflect.Modifier;
import java.util.Arrays;
import java.util.TreeSet;

/** The public face is the document's, and no call throws, whatever it is told. */
public final class PenRoomFace {
  private static final String[] METHODS = {
    "int person(int)", "boolean roles(int,int)", "boolean away(int,int,int)", "int deputy(int,int,int,int,int)", "boolean end(int)",
    "int acts(int,int,int)", "int later(int)", "int feed(int,int,int,int,int)", "int cut(int)", "int rules()", "int fault(int)",
    "boolean span(int)", "int paper(int,int,int,int,boolean)", "int of(int,int)", "int slot(int,int,int)",
    "boolean sign(int,int,int,int)", "boolean back(int)", "boolean withdraw(int)", "long signed(int,int,int,boolean)", "int way(int)",
    "int wayOf(int,int)", "int holders(int)", "int greatest(int,int,boolean,int,int)", "int about(int)"};
  private static final int[] ODD = {
    0, 1, -1, 2, 3, 4, 5, 7, 8, 13, 14, 29, 30, 31, 32, 33, 39, 40, 63, 255, 256, 512, 1000, 1001, 16383, 16384, 100000, 100001,
    1000000, 1000001, Integer.MAX_VALUE, Integer.MIN_VALUE, -2, -32, 0x72756c65, 0x20706179, 0x3a31206c, 0x61773b20};
  private static int wrong = 0;

  private static void must(boolean good, String what) {
    if (!good) {
      wrong++;
      System.out.println("not so: " + what);
    }
  }

  private static String told(Method m) {
    StringBuilder s = new StringBuilder(m.getReturnType().getName()).append(' ').append(m.getName()).append('(');
    for (int i = 0; i < m.getParameterCount(); i++) s.append(i == 0 ? "" : ",").append(m.getParameterTypes()[i].getName());
    return s.append(')').toString();
  }

  private static void face() {
    Class<?> c = PenRoom.class;
    must(Modifier.isPublic(c.getModifiers()) && Modifier.isFinal(c.getModifiers()), "public and final");
    TreeSet<String> open = new TreeSet<>();
    TreeSet<String> names = new TreeSet<>();
    for (String m : METHODS) names.add(m.substring(m.indexOf(' ') + 1, m.indexOf('(')));
    for (Method m : c.getDeclaredMethods()) {
      if (!Modifier.isPrivate(m.getModifiers())) open.add(told(m));
      else must(!names.contains(m.getName()), "no private method named " + m.getName());
    }
    must(open.equals(new TreeSet<>(Arrays.asList(METHODS))), "the methods of the document alone, but " + open);
    for (Field f : c.getDeclaredFields()) must(Modifier.isPrivate(f.getModifiers()) || f.getName().equals("NONE"), f.getName() + " private");
    Constructor<?>[] made = c.getDeclaredConstructors();
    must(made.length == 1 && Modifier.isPublic(made[0].getModifiers()) && made[0].getParameterCount() == 0, "one constructor");
    must(c.getDeclaredClasses().length <= 12, "at most some twelve classes");
    for (Class<?> inside : c.getDeclaredClasses()) {
      must(Modifier.isStatic(inside.getModifiers()), inside + " static");
      must(inside.getDeclaredFields().length <= 50, inside + " has few fields");
      for (Method m : inside.getDeclaredMethods()) must(!names.contains(m.getName()), inside + " has no method named " + m.getName());
    }
  }

  /** Calls of any method with odd numbers on a room that has people, papers and rules; each answers. */
  private static void odd(long seed) {
    java.util.Random r = new java.util.Random(seed);
    Method[] all = Arrays.stream(PenRoom.class.getDeclaredMethods()).filter(m -> Modifier.isPublic(m.getModifiers()))
        .sorted((a, b) -> a.getName().compareTo(b.getName())).toArray(Method[]::new);
    PenRoom x = new PenRoom();
    for (int i = 0; i < 5; i++) x.person(255);
    for (int call = 0; call < 500; call++) {
      if (call == 100) {
        x.cut(0);
        x.feed(0x72756c65, 0x20706179, 0x3a31206c, 0x61773b20, 0x20202020);
        x.rules();
      }
      Method m = all[r.nextInt(all.length)];
      Object[] with = new Object[m.getParameterCount()];
      for (int i = 0; i < with.length; i++) {
        with[i] = m.getParameterTypes()[i] == boolean.class ? (Object) r.nextBoolean() : (Object) ODD[r.nextInt(r.nextInt(3) == 0 ? ODD.length : 6)];
      }
      try {
        m.invoke(x, with);
      } catch (ReflectiveOperationException thrown) {
        must(false, told(m) + Arrays.toString(with) + " answers, but " + thrown.getCause());
      }
    }
  }

  public static void main(String[] args) {
    face();
    for (long seed = 1; seed <= 200; seed++) odd(seed);
    System.out.println(wrong == 0 ? "the face is the document's" : wrong + " things are not so");
    if (wrong != 0) System.exit(1);
  }
}
