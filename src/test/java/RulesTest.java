import java.lang.reflect.Array;
import java.lang.reflect.Field;
import java.lang.reflect.Method;
import java.lang.reflect.Modifier;
import java.nio.file.Files;
import java.nio.file.Path;
import java.util.ArrayDeque;
import java.util.Arrays;
import java.util.Collections;
import java.util.Deque;
import java.util.IdentityHashMap;
import java.util.List;
import java.util.Set;
import java.util.TreeSet;
import java.util.regex.Matcher;
import java.util.regex.Pattern;

/** What of ../shared/LANGUAGE.md and of the room for one run can be read off the program. */
public final class RulesTest {
  private static final Path SOURCE = Path.of("src/main/java/CallMelt.java");
  private static final int MOST_ELEMENTS = 100_000;
  private static final List<String> FACE = Arrays.asList("number", "name", "act", "join", "set", "call",
      "routine", "body", "told", "about", "same", "run", "ran", "row", "lay", "clearCounts", "melt",
      "gain", "weight", "ahead", "drop", "undo", "layout", "laid", "next", "count");

  private static int wrong = 0;

  public static void main(String[] args) throws Exception {
    String source = Files.readString(SOURCE);
    String code = source.replaceAll("(?s)/\\*.*?\\*/", " ").replaceAll("//[^\n]*", " ");
    words(code);
    imports(code);
    face();
    nested();
    methods(source);
    room();
    System.out.println(wrong == 0 ? "the rules are kept" : wrong + " rules are broken");
    if (wrong != 0) {
      System.exit(1);
    }
  }

  private static void must(boolean kept, String rule) {
    if (!kept) {
      wrong++;
      System.out.println("broken: " + rule);
    }
  }

  private static void words(String code) {
    String[] none = {"throw", "throws", "try", "catch", "finally", "synchronized", "assert", "package",
        "var", "Object", "Random", "Thread", "yield", "->", "::", "float", "double", "equals",
        "hashCode", "toString", "import static", "Exact", "nanoTime", "currentTimeMillis"};
    for (String word : none) {
      String edge = Character.isLetter(word.charAt(0)) ? "\\b" : "";
      must(!Pattern.compile(edge + word + edge).matcher(code).find(), "the program says " + word);
    }
    for (char sign : code.toCharArray()) {
      must(sign < 128, "a sign above 127");
    }
  }

  private static void imports(String code) {
    Matcher found = Pattern.compile("import ([\\w.*]+);").matcher(code);
    while (found.find()) {
      must(found.group(1).equals("java.util.Arrays"), "import of " + found.group(1));
    }
    Matcher calls = Pattern.compile("\\b(Arrays|System|Math|Integer|Long)\\.(\\w+)").matcher(code);
    Set<String> listed = new TreeSet<>(Arrays.asList("Arrays.fill", "System.arraycopy", "Math.max",
        "Math.min"));
    while (calls.find()) {
      must(listed.contains(calls.group()), "use of " + calls.group());
    }
  }

  private static void face() {
    Set<String> open = new TreeSet<>();
    for (Method method : CallMelt.class.getDeclaredMethods()) {
      if (Modifier.isPublic(method.getModifiers())) {
        open.add(method.getName());
        must(method.getReturnType() == int.class, method.getName() + " answers an int");
      } else if (!method.isSynthetic()) {
        must(Modifier.isPrivate(method.getModifiers()), method.getName() + " is private");
        must(!FACE.contains(method.getName()), method.getName() + " is a name of the face");
      }
    }
    must(open.equals(new TreeSet<>(FACE)), "the methods of the face: " + open);
    int constants = 0;
    for (Field field : CallMelt.class.getDeclaredFields()) {
      int bits = field.getModifiers();
      must(!Modifier.isStatic(bits) || Modifier.isFinal(bits), field.getName() + " is final");
      constants += Modifier.isPublic(bits) ? 1 : 0;
      must(Modifier.isPublic(bits) || Modifier.isPrivate(bits), field.getName() + " is private");
    }
    must(constants == 4, "four public constants");
    int bits = CallMelt.class.getModifiers();
    must(Modifier.isPublic(bits) && Modifier.isFinal(bits), "the class is public and final");
    must(CallMelt.class.getDeclaredConstructors().length == 1, "one constructor");
  }

  private static void nested() {
    Class<?>[] classes = CallMelt.class.getDeclaredClasses();
    must(classes.length <= 11, "some twelve classes at most");
    for (Class<?> each : classes) {
      must(Modifier.isStatic(each.getModifiers()), each + " is static");
      must(!Modifier.isPublic(each.getModifiers()), each + " is not public");
      int fields = 0;
      for (Field field : each.getDeclaredFields()) {
        boolean fast = Modifier.isStatic(field.getModifiers());
        fields += fast ? 0 : 1;
        must(!fast || Modifier.isFinal(field.getModifiers()), field + " is final");
      }
      must(fields <= 20, each + " has some twenty fields at most");
      for (Method method : each.getDeclaredMethods()) {
        must(!FACE.contains(method.getName()), method + " has a name of the face");
        must(method.getParameterCount() <= 7, method + " takes seven parameters at most");
      }
    }
  }

  private static void methods(String source) {
    String[] lines = source.split("\n");
    int start = 0;
    for (int i = 0; i < lines.length; i++) {
      must(lines[i].length() <= 100, "line " + (i + 1) + " is short");
      if (lines[i].matches(" {2,4}(?! )[^/]*\\) \\{")) {
        start = i;
      }
      if (lines[i].matches(" {2,4}(?! )\\}")) {
        must(i - start <= 60 || lines[start].contains("class"), "method at line " + (start + 1));
        start = i;
      }
    }
  }

  /** All that an object has ever made is what hangs on it: no call but the kept states makes any. */
  private static void room() throws IllegalAccessException {
    CallMelt melt = new CallMelt();
    int r = melt.routine(0);
    while (melt.number(0) != CallMelt.FULL) {
      melt.count(0);
    }
    for (int i = 0; i < 40; i++) {
      melt.body(r, i);
    }
    must(melt.count(5) == 12, "12 states are kept");
    Set<Object> seen = Collections.newSetFromMap(new IdentityHashMap<>());
    Deque<Object> open = new ArrayDeque<>();
    open.add(melt);
    long elements = 0;
    while (!open.isEmpty()) {
      Object at = open.remove();
      if (!seen.add(at)) {
        continue;
      }
      elements += at.getClass().isArray() ? ofArray(at, open) : ofObject(at, open);
    }
    System.out.println("  one object at most: " + seen.size() + " objects, " + elements + " elements");
    must(elements <= MOST_ELEMENTS, "one object has " + elements + " elements");
    must(seen.size() <= 200, "one object has " + seen.size() + " objects");
  }

  private static long ofArray(Object array, Deque<Object> open) {
    boolean holds = !array.getClass().getComponentType().isPrimitive();
    for (int i = 0; holds && i < Array.getLength(array); i++) {
      if (Array.get(array, i) != null) {
        open.add(Array.get(array, i));
      }
    }
    return Array.getLength(array);
  }

  private static long ofObject(Object object, Deque<Object> open) throws IllegalAccessException {
    long fields = 0;
    for (Field field : object.getClass().getDeclaredFields()) {
      if (Modifier.isStatic(field.getModifiers())) {
        continue;
      }
      fields++;
      field.setAccessible(true);
      if (!field.getType().isPrimitive() && field.get(object) != null) {
        open.add(field.get(object));
      }
    }
    return fields;
  }
}
