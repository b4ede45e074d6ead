import java.io.IOException;
import java.lang.reflect.Array;
import java.lang.reflect.Constructor;
import java.lang.reflect.Field;
import java.lang.reflect.Method;
import java.lang.reflect.Modifier;
import java.nio.file.Files;
import java.nio.file.Path;
import java.util.ArrayList;
import java.util.Arrays;
import java.util.Collections;
import java.util.IdentityHashMap;
import java.util.List;
import java.util.Set;
import java.util.TreeSet;
import java.util.regex.Matcher;
import java.util.regex.Pattern;

/** The rules of LANGUAGE.md that can be counted or seen in the words of the class. */
public final class LanguageTest extends Checks {
  private static final Path SOURCE = Path.of("src/main/java/PatternedDecimals.java");
  private static final String[] RULED_OUT = {"package", "import", "throw", "throws", "try", "catch",
    "finally", "synchronized", "assert", "volatile", "native", "protected", "Object", "Thread",
    "Random", "hashCode", "getClass"};
  /** What the class uses of it: LANGUAGE.md allows more. */
  private static final Set<String> LIBRARY = Set.of("Math.max", "Math.min", "Math.abs",
    "Long.compare", "System.arraycopy");
  private static final Set<Class<?>> NUMBERS = Set.of(int.class, long.class, short.class, byte.class,
    char.class, boolean.class);
  private static final int CALLS_MOST = 512;
  private static final long ROOM_OBJECTS = 600_000;
  private static final long ROOM_ELEMENTS = 7_300_000;

  public static void main(String[] args) throws IOException, IllegalAccessException {
    String code = withoutCommentsAndTexts(Files.readString(SOURCE));
    wordsRuledOut(code);
    libraryUsed(code);
    madeInConstructorsAlone(code);
    lengthsOfMethods(code);
    countsOfClasses();
    fieldsOfClasses();
    roomOfAnObject();
    finish();
  }

  private static List<Class<?>> classes() {
    List<Class<?>> all = new ArrayList<>();
    all.add(PatternedDecimals.class);
    all.addAll(Arrays.asList(PatternedDecimals.class.getDeclaredClasses()));
    return all;
  }

  private static String withoutCommentsAndTexts(String source) {
    Matcher m = Pattern.compile("/\\*.*?\\*/|//[^\n]*|'(?:\\\\.|[^'\\\\])'|\"(?:\\\\.|[^\"\\\\])*\"",
        Pattern.DOTALL).matcher(source);
    return m.replaceAll(found -> "\n".repeat((int) found.group().lines().count() - 1));
  }

  private static void wordsRuledOut(String code) {
    sentence("rules 2, 3, 4, 6: no word of what is left out of Java");
    Set<String> words = new TreeSet<>(Arrays.asList(code.split("\\W+")));
    for (String word : RULED_OUT) {
      due("the word " + word, words.contains(word), false);
    }
    due("a lambda", code.contains("->"), false);
    due("a method reference", code.contains("::"), false);
    due("an annotation", code.contains("@"), false);
    due("a static initialiser", Pattern.compile("static\\s*\\{").matcher(code).find(), false);
    due("an array of two dimensions", Pattern.compile("\\[\\s*\\]\\s*\\[").matcher(code).find(), false);
  }

  private static void libraryUsed(String code) {
    sentence("rule 4: only what stands here");
    Matcher m = Pattern.compile("\\b([A-Z][a-z]\\w*)\\s*\\.\\s*(\\w+)").matcher(code);
    while (m.find()) {
      String call = m.group(1) + "." + m.group(2);
      due("use of " + call, LIBRARY.contains(call), true);
    }
  }

  private static void madeInConstructorsAlone(String code) {
    sentence("make rows in constructors and use them again");
    Matcher body = Pattern.compile("\n( *)(?:private|public) [A-Z]\\w*\\(\\) \\{(.*?)\n\\1\\}",
        Pattern.DOTALL).matcher(code);
    int inConstructors = 0;
    while (body.find()) {
      inConstructors += countNew(body.group(2));
    }
    due("objects made in constructors", inConstructors > 0, true);
    due("objects made elsewhere", countNew(code) - inConstructors, 0);
  }

  private static int countNew(String code) {
    return code.split("\\bnew\\b", -1).length - 1;
  }

  private static void lengthsOfMethods(String code) {
    sentence("rule 11: methods stay short (some sixty lines)");
    Matcher m = Pattern.compile("\n( *)[^\n;=]*\\([^\n;=]*\\) \\{(.*?)\n\\1\\}", Pattern.DOTALL)
        .matcher(code);
    int methods = 0;
    while (m.find()) {
      methods++;
      due("short: " + m.group().trim().lines().findFirst(), m.group().lines().count() <= 60, true);
    }
    due("methods were seen", methods > 60, true);
  }

  private static void countsOfClasses() {
    sentence("rule 11: at most seven parameters, some twelve classes, some twenty fields");
    due("at most twelve classes", classes().size() <= 12, true);
    for (Class<?> c : classes()) {
      countsOfClass(c);
    }
  }

  private static void countsOfClass(Class<?> c) {
    for (Method m : c.getDeclaredMethods()) {
      due("parameters of " + m, m.getParameterCount() <= 7, true);
    }
    for (Constructor<?> k : c.getDeclaredConstructors()) {
      due("parameters of " + k, k.getParameterCount() <= 7, true);
    }
    long fields = Arrays.stream(c.getDeclaredFields())
        .filter(f -> !Modifier.isStatic(f.getModifiers())).count();
    due("at most twenty fields in " + c, fields <= 20, true);
  }

  private static void fieldsOfClasses() {
    sentence("rules 3, 5: types; static fields are final");
    for (Class<?> c : classes()) {
      fieldsOfClass(c);
    }
  }

  private static void fieldsOfClass(Class<?> c) {
    for (Field f : c.getDeclaredFields()) {
      Class<?> type = f.getType().isArray() ? f.getType().getComponentType() : f.getType();
      due("type of " + f, NUMBERS.contains(type) || classes().contains(type), true);
      if (Modifier.isStatic(f.getModifiers())) {
        due("final " + f, Modifier.isFinal(f.getModifiers()), true);
        due("constant " + f, NUMBERS.contains(type), true);
      }
    }
  }

  private static void roomOfAnObject() throws IllegalAccessException {
    sentence("ONE room: some 600,000 objects and arrays, 7.3 million fields and elements in all");
    PatternedDecimals x = new PatternedDecimals();
    Set<Object> made = reachable(x);
    due("objects, if every call were a constructor", made.size() * CALLS_MOST < ROOM_OBJECTS, true);
    due("elements, if every call were a constructor", elements(made) * CALLS_MOST < ROOM_ELEMENTS,
        true);
    useEveryCall(x);
    Set<Object> later = reachable(x);
    due("objects after use", later.size(), made.size());
    due("the same objects after use", made.containsAll(later), true);
  }

  private static void useEveryCall(PatternedDecimals x) {
    retype(x, "a#,##0.0#%;'E'0.0");
    due("apply", x.apply(), NONE);
    due("mode", x.mode(0), true);
    due("format", x.format(-123456789, 7) > 0, true);
    due("field", x.field(0, true) > 0, true);
    x.copy();
    due("parse", x.parse(), true);
    due("print", x.print() > 0, true);
    x.copy();
    due("apply of what was printed", x.apply(), NONE);
    due("type", x.type(';'), true);
    due("apply of a fault", x.apply(), x.length() - 1);
  }

  private static Set<Object> reachable(Object root) throws IllegalAccessException {
    Set<Object> seen = Collections.newSetFromMap(new IdentityHashMap<>());
    List<Object> open = new ArrayList<>();
    open.add(root);
    while (!open.isEmpty()) {
      Object next = open.remove(open.size() - 1);
      if (seen.add(next) && !next.getClass().isArray()) {
        for (Field f : next.getClass().getDeclaredFields()) {
          f.setAccessible(true);
          if (!Modifier.isStatic(f.getModifiers()) && !f.getType().isPrimitive()) {
            open.add(f.get(next));
          }
        }
      }
    }
    return seen;
  }

  private static long elements(Set<Object> objects) {
    long count = 0;
    for (Object o : objects) {
      count += o.getClass().isArray() ? Array.getLength(o) : o.getClass().getDeclaredFields().length;
    }
    return count;
  }
}
