import java.lang.reflect.Constructor;
import java.lang.reflect.Field;
import java.lang.reflect.Method;
import java.lang.reflect.Modifier;
import java.util.Arrays;
import java.util.Set;
import java.util.TreeSet;

/** The class has the members of the document's public face, and all its others are private. */
public final class FaceTest {
  private static final String[] FACE = {
    "public static final int NONE",
    "public static final int BAD",
    "public static final int INEXACT",
    "public ()",
    "public boolean type(char)",
    "public void wipe()",
    "public int length()",
    "public int apply()",
    "public boolean mode(int)",
    "public int setting(int)",
    "public int format(long, int)",
    "public int print()",
    "public int out(int)",
    "public int field(int, boolean)",
    "public void copy()",
    "public boolean parse()",
    "public long value()",
    "public int scale()"
  };

  public static void main(String[] args) {
    Set<String> seen = new TreeSet<>();
    Set<String> publicNames = new TreeSet<>();
    Class<?> c = PatternedDecimals.class;
    for (Field f : c.getDeclaredFields()) {
      if (!Modifier.isPrivate(f.getModifiers())) {
        seen.add(Modifier.toString(f.getModifiers()) + " " + f.getType() + " " + f.getName());
      }
    }
    for (Constructor<?> k : c.getDeclaredConstructors()) {
      seen.add(Modifier.toString(k.getModifiers()) + " " + parameters(k.getParameterTypes()));
    }
    for (Method m : c.getDeclaredMethods()) {
      if (!Modifier.isPrivate(m.getModifiers())) {
        seen.add(Modifier.toString(m.getModifiers()) + " " + m.getReturnType() + " " + m.getName()
            + parameters(m.getParameterTypes()));
        publicNames.add(m.getName());
      }
    }
    int wrong = 0;
    Set<String> face = new TreeSet<>(Arrays.asList(FACE));
    if (!seen.equals(face)) {
      wrong++;
      System.out.println("the face is " + seen + ", due is " + face);
    }
    if (c.getModifiers() != (Modifier.PUBLIC | Modifier.FINAL)) {
      wrong++;
      System.out.println("the class is " + Modifier.toString(c.getModifiers()));
    }
    wrong += privateNames(c, publicNames);
    for (Class<?> inside : c.getDeclaredClasses()) {
      if (!Modifier.isStatic(inside.getModifiers()) || Modifier.isPublic(inside.getModifiers())) {
        wrong++;
        System.out.println(inside + " is " + Modifier.toString(inside.getModifiers()));
      }
      wrong += privateNames(inside, publicNames);
    }
    System.out.println(wrong == 0 ? "the face is as due" : wrong + " faults of the face");
    if (wrong != 0) {
      System.exit(1);
    }
  }

  private static String parameters(Class<?>[] types) {
    return Arrays.toString(types).replace('[', '(').replace(']', ')');
  }

  private static int privateNames(Class<?> c, Set<String> publicNames) {
    int wrong = 0;
    for (Method m : c.getDeclaredMethods()) {
      if (Modifier.isPrivate(m.getModifiers()) && publicNames.contains(m.getName())) {
        wrong++;
        System.out.println("a private method bears the name of a public one: " + m);
      }
    }
    return wrong;
  }
}
