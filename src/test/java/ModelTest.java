import java.util.ArrayList;
import java.util.List;

/**
 * Runs of calls, the same ones always, made on the program and on the Model alike; every answer
 * and, again and again, all that can be asked is compared.
 */
public final class ModelTest {
  private static final int RUNS = 1500;

  private final CallMelt real = new CallMelt();
  private final Model model = new Model();
  private final List<String> told = new ArrayList<>();
  private final boolean small;
  private final int names;
  // 0: nearly all steps are told already, 1: high trees, 2: a body of many calls, else as it comes.
  private final int sort;
  private long seed;
  private int wrong;

  private ModelTest(long seed) {
    this.seed = seed * 7919 + 17;
    sort = any(8);
    small = any(3) != 0;
    names = any(6) == 0 ? 40 : 1 + any(6);
  }

  public static void main(String[] args) {
    int wrongRuns = 0;
    long[] seen = new long[6];
    for (int run = 0; run < RUNS && wrongRuns < 3; run++) {
      ModelTest test = new ModelTest(run);
      test.play(seen);
      if (test.wrong > 0) {
        wrongRuns++;
        System.out.println("run " + run + " differs:");
        List<String> calls = test.told;
        for (String call : calls.subList(Math.max(0, calls.size() - 200), calls.size())) {
          System.out.println("  " + call);
        }
      }
    }
    String[] what = {"melts", "melts FULL", "aheads that changed", "aheads FULL", "undos", "layouts"};
    for (int i = 0; i < what.length; i++) {
      System.out.println("  " + what[i] + ": " + seen[i]);
      if (seen[i] == 0) {
        System.out.println("  the runs never came to " + what[i]);
        wrongRuns++;
      }
    }
    System.out.println(wrongRuns == 0 ? "program and model are alike" : "program and model differ");
    if (wrongRuns != 0) {
      System.exit(1);
    }
  }

  private int any(int below) {
    seed = seed * 6364136223846793005L + 1442695040888963407L;
    return (int) ((seed >>> 33) % below);
  }

  private int due(String call, int got, int want) {
    told.add(call + " = " + want + (got == want ? "" : ", but the program says " + got));
    wrong += got == want ? 0 : 1;
    return want;
  }

  private void play(long[] seen) {
    for (int i = sort == 0 ? 540 + any(45) : 0; i > 0; i--) {
      due("number(1)", real.number(1), model.number(1));
    }
    int routines = 1 + any(small ? 4 : 10);
    for (int r = 0; r < routines; r++) {
      tellRoutine(any(4));
    }
    for (int r = 0; r < routines; r++) {
      if (any(8) != 0) {
        tellBody(r, wrap(build(1 + any(small ? 5 : 7), r)));
      }
    }
    if (sort == 2) {
      tellBody(0, -1);
      tellBody(0, manyCalls(Math.min(1, routines - 1), 1 + any(18)));
    }
    int moves = 60 + any(120);
    for (int i = 0; i < moves && wrong == 0; i++) {
      move(seen);
      if (i % 12 == 0) {
        compareAll();
      }
    }
    compareAll();
  }

  private void move(long[] seen) {
    int r = any(model.routines.size() + (any(20) == 0 ? 3 : 0)) - (any(40) == 0 ? 1 : 0);
    r = sort == 2 && any(2) == 0 ? 0 : r;
    switch (any(24)) {
      case 0: case 1: case 2: case 3: case 4:
        tellRun(r);
        break;
      case 5: case 6: case 7: case 8: case 9:
        int call = aCall();
        int before = due("weight(" + call + ")", real.weight(call), model.weight(call));
        int melted = due("melt(" + call + ")", real.melt(call), model.melt(call));
        seen[0] += before >= 0 && melted >= 0 ? 1 : 0;
        seen[1] += melted == Model.FULL ? 1 : 0;
        break;
      case 10: case 11: case 12:
        int fewer = due("ahead(" + r + ")", real.ahead(r), model.ahead(r));
        seen[2] += fewer > 0 ? 1 : 0;
        seen[3] += fewer == Model.FULL ? 1 : 0;
        break;
      case 13: case 14: case 15:
        seen[4] += due("undo()", real.undo(), model.undo()) == 1 ? 1 : 0;
        break;
      case 16:
        if (any(4) == 0) {
          due("drop()", real.drop(), model.drop());
        }
        break;
      case 17: case 18:
        seen[5] += tellLayout(r) > 0 ? 1 : 0;
        break;
      case 19:
        int x = any(model.steps.size() + 2) - 1;
        int y = any(model.steps.size() + 2) - 1;
        due("same(" + x + ", " + y + ")", real.same(x, y), model.same(x, y));
        break;
      case 20:
        tellBody(r, any(3) == 0 ? -1 : any(model.steps.size() + 2) - 1);
        break;
      case 21:
        if (any(3) == 0) {
          tellBody(r, build(1 + any(4), r));
        }
        break;
      case 22:
        int v = value();
        int i = any(10) - 1;
        due("lay(" + i + ", " + v + ")", real.lay(i, v), model.lay(i, v));
        break;
      default:
        if (any(4) == 0) {
          due("clearCounts()", real.clearCounts(), model.clearCounts());
        } else {
          wild();
        }
    }
  }

  /** Calls with numbers of all sorts, mostly refused. */
  private void wild() {
    int a = any(4) == 0 ? value() : any(model.steps.size() + 1);
    int b = any(4) == 0 ? value() : any(model.steps.size() + 1);
    int c = any(4) == 0 ? value() : any(model.steps.size() + 1);
    int k = any(15) - 2;
    String in = k + ", " + a + ", " + b + ", " + c + ")";
    switch (any(8)) {
      case 0:
        due("act(" + in, real.act(k, a, b), model.act(k, a, b));
        break;
      case 1: case 2:
        due("join(" + in, real.join(k, a, b, c), model.join(k, a, b, c));
        break;
      case 3:
        due("set(" + in, real.set(k, a), model.set(k, a));
        break;
      case 4:
        due("call(" + in, real.call(k, a, b, c), model.call(k, a, b, c));
        break;
      case 5:
        due("name(" + in, real.name(a), model.name(a));
        break;
      case 6:
        due("told(" + in, real.told(a, k), model.told(a, k));
        break;
      default:
        due("gain(" + in, real.gain(a), model.gain(a));
    }
  }

  private void tellRoutine(int params) {
    due("routine(" + params + ")", real.routine(params), model.routine(params));
  }

  private void tellBody(int r, int step) {
    due("body(" + r + ", " + step + ")", real.body(r, step), model.body(r, step));
  }

  private void tellRun(int r) {
    int a = value();
    int b = value();
    int c = value();
    int fuel = any(5) == 0 ? any(2005) - 2 : any(120);
    String call = "run(" + r + ", " + a + ", " + b + ", " + c + ", " + fuel + ")";
    due(call, real.run(r, a, b, c, fuel), model.run(r, a, b, c, fuel));
    for (int what = -1; what < 5; what++) {
      due("ran(" + what + ")", real.ran(what), model.ran(what));
    }
  }

  private int tellLayout(int r) {
    int budget = any(5) == 0 ? any(1010) - 5 : any(any(2) == 0 ? 20 : 100);
    String in = "(" + r + ", " + budget + ")";
    int size = due("layout" + in, real.layout(r, budget), model.layout(r, budget));
    for (int what = -1; what < 15; what++) {
      due("laid(" + what + ")", real.laid(what), model.laid(what));
    }
    due("next" + in, real.next(r, budget), model.next(r, budget));
    return size;
  }

  private int aCall() {
    List<Integer> calls = new ArrayList<>();
    for (int step = 0; step < model.steps.size(); step++) {
      if (model.told(step, 0) == Model.CALL) {
        calls.add(step);
      }
    }
    return calls.isEmpty() || any(10) == 0
        ? any(model.steps.size() + 2) - 1 : calls.get(any(calls.size()));
  }

  private int value() {
    int[] rare = {Integer.MIN_VALUE, Integer.MAX_VALUE, -1, 600, 65536, -1000000000};
    return any(12) == 0 ? rare[any(rare.length)] : any(14) - 4;
  }

  /** A tree told from its leaves on: the step, or what refused it. */
  private int build(int levels, int r) {
    int kind = levels <= 1 ? any(2) : any(14);
    int k = any(names);
    int t;
    int x;
    int y;
    switch (kind) {
      case 0:
        int v = value();
        return due("number(" + v + ")", real.number(v), model.number(v));
      case 1:
        return due("name(" + k + ")", real.name(k), model.name(k));
      case 2: case 11:
        x = build(levels - 1, r);
        y = build(levels - 1, r);
        int op = any(6);
        return due("act(" + op + ", " + x + ", " + y + ")", real.act(op, x, y), model.act(op, x, y));
      case 4: case 12:
        x = build(levels - 1, r);
        return due("set(" + k + ", " + x + ")", real.set(k, x), model.set(k, x));
      case 6: case 13:
        return buildCall(levels, r);
      case 8:
        return buildLoop(levels, r, k);
      default:
        kind = kind == 10 && any(2) == 0 ? 5 : kind;
        t = kind == 3 ? build(levels - 1, r) : value();
        x = kind > 8 && any(4) != 0 ? place() : build(levels - 1, r);
        y = kind == 7 || kind == 9 ? value() : build(levels - 1, r);
        return due("join(" + kind + ", " + t + ", " + x + ", " + y + ")",
            real.join(kind, t, x, y), model.join(kind, t, x, y));
    }
  }

  /** In a run of high trees, some levels more. */
  private int wrap(int inner) {
    int step = inner;
    for (int level = sort == 1 ? any(45) : 0; level > 0; level--) {
      int k = any(names);
      int v = sort == 1 && any(3) == 0 ? place() : -1;
      step = v < 0
          ? due("set(" + k + ", " + step + ")", real.set(k, step), model.set(k, step))
          : due("join(5, ..)", real.join(5, 0, v, step), model.join(5, 0, v, step));
    }
    return step;
  }

  private int manyCalls(int r, int calls) {
    int step = place();
    for (int i = 0; i < calls; i++) {
      int call = buildCall(2, any(model.routines.size()) - 1 + r);
      step = due("join(5, ..)", real.join(5, 0, call, step), model.join(5, 0, call, step));
    }
    return step;
  }

  private int place() {
    int v = any(9);
    return due("number(" + v + ")", real.number(v), model.number(v));
  }

  private int buildCall(int levels, int r) {
    int callee = any(5) == 0 ? any(model.routines.size()) : Math.min(r + 1, model.routines.size() - 1);
    int params = model.about(callee, 0);
    int x = params > 0 ? build(levels - 1, r) : value();
    int y = params > 1 ? build(levels - 1, r) : value();
    int z = params > 2 ? build(levels - 1, r) : value();
    String call = "call(" + callee + ", " + x + ", " + y + ", " + z + ")";
    return due(call, real.call(callee, x, y, z), model.call(callee, x, y, z));
  }

  /** WHILE NAME k, something and k one less; at times anything. */
  private int buildLoop(int levels, int r, int k) {
    int t;
    int x;
    if (any(4) == 0) {
      t = build(levels - 1, r);
      x = build(levels - 1, r);
    } else {
      t = due("name(" + k + ")", real.name(k), model.name(k));
      int old = due("name(" + k + ")", real.name(k), model.name(k));
      int one = due("number(1)", real.number(1), model.number(1));
      int less = due("act(1, .. )", real.act(1, old, one), model.act(1, old, one));
      int set = due("set(" + k + ", ..)", real.set(k, less), model.set(k, less));
      int inner = build(Math.min(2, levels - 1), r);
      x = due("join(5, ..)", real.join(5, 0, inner, set), model.join(5, 0, inner, set));
    }
    return due("join(8, 0, " + t + ", " + x + ")", real.join(8, 0, t, x), model.join(8, 0, t, x));
  }

  private void compareAll() {
    for (int what = -1; what < 7; what++) {
      due("count(" + what + ")", real.count(what), model.count(what));
    }
    for (int r = -1; r <= model.routines.size(); r++) {
      for (int what = -1; what < 7; what++) {
        due("about(" + r + ", " + what + ")", real.about(r, what), model.about(r, what));
      }
    }
    for (int step = -1; step <= model.steps.size(); step++) {
      for (int what = -1; what < 10; what++) {
        due("told(" + step + ", " + what + ")", real.told(step, what), model.told(step, what));
      }
    }
    for (int i = -1; i < 9; i++) {
      due("row(" + i + ")", real.row(i), model.row(i));
    }
  }
}
