import java.lang.reflect.Method;
import java.lang.reflect.Modifier;
import java.util.Map;
import java.util.TreeMap;

/** What the tests share: the document's numbers, short words for trees of STEPS, and due(). */
abstract class Tests {
  static final int BAD = CallMelt.BAD, NO = CallMelt.NO;
  static final int FULL = CallMelt.FULL, NONE = CallMelt.NONE;
  static final int STRANGE = -1000000000;
  static final int LEAST = Integer.MIN_VALUE, MOST = Integer.MAX_VALUE;
  static final int NUMBER = 0, NAME = 1, ACT = 2, PICK = 3, SET = 4, BOTH = 5, CALL = 6;
  static final int LEAVE = 7, WHILE = 8, REACH = 9, LAY = 10, BLOCK = 11, GONE = -1;
  static final int SUM = 0, DIFFERENCE = 1, PRODUCT = 2, QUOTIENT = 3, BELOW = 4, ALIKE = 5;
  static final int NOUGHT = 1, PLACE = 2, MISSING = 3, FUEL = 4, DEEP = 5;
  static final int MOST_STEPS = 600;

  private static final int WRITTEN_OFF = 30;
  private static final String[] WORDS = {"", "n", "act", "pick", "set", "both", "call", "leave",
      "while", "reach", "lay", "block"};

  private static int wrong = 0;
  private static int asked = 0;
  private static String sentence = "";

  /** The sentence of the document that what follows holds the program to. */
  static void says(String words) {
    sentence = words;
  }

  static void due(String what, int got, int want) {
    asked++;
    if (got != want) {
      wrong++;
      System.out.println("\"" + sentence + "\": " + what + " answered " + got + ", due is " + want);
    }
  }

  static void due(String what, String got, String want) {
    asked++;
    if (!got.equals(want)) {
      wrong++;
      System.out.println("\"" + sentence + "\": " + what + " is");
      System.out.println("    " + got + ", due is");
      System.out.println("    " + want);
    }
  }

  /** Runs every test of a class: its methods without parameters, by their names. */
  static void runAll(Class<?> tests) throws ReflectiveOperationException {
    Map<String, Method> byName = new TreeMap<>();
    for (Method method : tests.getDeclaredMethods()) {
      if (Modifier.isStatic(method.getModifiers()) && method.getParameterCount() == 0
          && method.getReturnType() == void.class) {
        byName.put(method.getName(), method);
      }
    }
    for (Method method : byName.values()) {
      sentence = method.getName();
      method.setAccessible(true);
      method.invoke(null);
    }
    System.out.println("  " + byName.size() + " tests, " + asked + " answers");
    end();
  }

  static void end() {
    System.out.println(wrong == 0 ? "all answers are as due" : wrong + " answers are not as due");
    if (wrong != 0) {
      System.exit(1);
    }
  }

  // ---- trees

  static int both(CallMelt x, int first, int second) {
    return x.join(BOTH, 0, first, second);
  }

  static int pick(CallMelt x, int t, int yes, int no) {
    return x.join(PICK, t, yes, no);
  }

  static int leave(CallMelt x, int value) {
    return x.join(LEAVE, 0, value, 0);
  }

  static int loop(CallMelt x, int t, int body) {
    return x.join(WHILE, 0, t, body);
  }

  static int reach(CallMelt x, int i) {
    return x.join(REACH, 0, i, 0);
  }

  static int lays(CallMelt x, int i, int v) {
    return x.join(LAY, 0, i, v);
  }

  /** SET 0 of SET 0 of .. a NUMBER, as HIGH as asked for. */
  static int high(CallMelt x, int high) {
    int step = x.number(1);
    for (int level = 1; level < high; level++) {
      step = x.set(0, step);
    }
    return step;
  }

  /** What an ACT of two NAMES, which are handed over, comes to in a RUN. */
  static int ranAct(int op, int x, int y) {
    CallMelt melt = new CallMelt();
    int r = melt.routine(2);
    melt.body(r, melt.act(op, melt.name(0), melt.name(1)));
    return melt.run(r, x, y, 0, 9) == 0 ? melt.ran(0) : STRANGE;
  }

  /**
   * So many STEPS told or made, the last one LOOSE. One by one would take more calls than an object
   * is made for, so most are made by meltings that are taken back; two ROUTINES come with it.
   */
  static void fill(CallMelt x, int steps) {
    int called = x.routine(0);
    int caller = x.routine(0);
    int made = x.count(0);
    if (steps - made > 4 * WRITTEN_OFF && caller >= 0) {
      int step = x.number(1);
      for (int size = 2; size < WRITTEN_OFF; size++) {
        step = leave(x, step);
      }
      int call = x.call(called, 0, 0, 0);
      x.body(called, step);
      x.body(caller, call);
      // Each melting makes a BLOCK, and all of the BODY once more.
      for (made += WRITTEN_OFF; made + WRITTEN_OFF < steps; made += WRITTEN_OFF) {
        x.melt(call);
        x.undo();
      }
      x.body(called, -1);
      x.body(caller, -1);
    }
    for (; made < steps; made++) {
      x.number(0);
    }
  }

  /**
   * Routine 0 calls 1 (SIZE 1), 2 (SIZE 2), .. without PARAMS, as often as told, in that order of
   * STEPS; the BODY is a chain of PICKS of places of THE ROW, so that each CALL can be counted.
   */
  static CallMelt market(int[] callees) {
    CallMelt x = new CallMelt();
    x.routine(0);
    for (int r = 1; r < 5; r++) {
      x.routine(0);
      int step = x.number(r);
      for (int i = 1; i < r; i++) {
        step = leave(x, step);
      }
      x.body(r, step);
    }
    int[] calls = new int[callees.length];
    for (int i = 0; i < callees.length; i++) {
      calls[i] = x.call(callees[i], 0, 0, 0);
    }
    int all = x.number(0);
    for (int i = 0; i < callees.length; i++) {
      int t = reach(x, x.number(i % 8));
      all = both(x, pick(x, t, calls[i], x.number(0)), all);
    }
    x.body(0, all);
    return x;
  }

  static void visit(CallMelt x, int... times) {
    for (int i = 0; i < times.length; i++) {
      x.lay(i, 1);
      for (int k = 0; k < times[i]; k++) {
        x.run(0, 0, 0, 0, 200);
      }
      x.lay(i, 0);
    }
  }

  // ---- what stands

  /** A tree as a text: each STEP's word and number, then its PARTS. */
  static String show(CallMelt x, int step) {
    int kind = x.told(step, 0);
    if (kind < NUMBER || kind > BLOCK) {
      return "none";
    }
    StringBuilder text = new StringBuilder(WORDS[kind]);
    if (kind == NUMBER || kind == NAME || kind == ACT || kind == SET || kind == CALL) {
      text.append(x.told(step, 1));
    }
    String ahead = "[";
    for (int place = 2; place < 5 && x.told(step, place) != NONE; place++) {
      text.append(ahead).append(show(x, x.told(step, place)));
      ahead = " ";
    }
    return text.append(ahead.equals(" ") ? "]" : "").toString();
  }

  static String showBody(CallMelt x, int r) {
    return show(x, x.about(r, 1));
  }

  /** The numbers of a tree's STEPS, each ahead of its PARTS, the first PART first. */
  static String order(CallMelt x, int step) {
    StringBuilder text = new StringBuilder().append(step);
    for (int place = 2; place < 5 && x.told(step, place) != NONE; place++) {
      text.append(' ').append(order(x, x.told(step, place)));
    }
    return text.toString();
  }

  /** All that is told of the first STEPS, but their COUNTS, and of all ROUTINES. */
  static String state(CallMelt x, int steps) {
    StringBuilder text = new StringBuilder();
    for (int step = 0; step < steps; step++) {
      for (int what = 0; what < 7; what++) {
        text.append(x.told(step, what)).append(' ');
      }
    }
    for (int r = 0; r < x.count(3); r++) {
      text.append("; ").append(x.about(r, 0)).append(' ').append(x.about(r, 1));
    }
    return text.append("; ").append(x.count(2)).toString();
  }
}
