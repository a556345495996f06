import java.util.ArrayDeque;
import java.util.ArrayList;
import java.util.Collections;
import java.util.Deque;
import java.util.HashMap;
import java.util.List;
import java.util.Map;
import java.util.TreeSet;

/**
 * The document once more, written for plainness and by other means than the program: nodes that
 * hold each other, recursion, exceptions, whole copies. ModelTest compares the two.
 */
final class Model {
  static final int BAD = -1, NO = -2, FULL = -3, NONE = -4, STRANGE = -1000000000;
  static final int NUMBER = 0, NAME = 1, ACT = 2, PICK = 3, SET = 4, BOTH = 5, CALL = 6;
  static final int LEAVE = 7, WHILE = 8, REACH = 9, LAY = 10, BLOCK = 11;

  static final class Node {
    int id;
    int kind;
    int num;
    List<Node> parts = new ArrayList<>();
    Node parent;

    Node(int kind, int num, Node... parts) {
      this.kind = kind;
      this.num = num;
      for (Node part : parts) {
        take(part);
      }
    }

    void take(Node part) {
      parts.add(part);
      part.parent = this;
    }

    int high() {
      int high = 0;
      for (Node part : parts) {
        high = Math.max(high, part.high());
      }
      return high + 1;
    }

    List<Node> all() {
      List<Node> list = new ArrayList<>();
      list.add(this);
      for (Node part : parts) {
        list.addAll(part.all());
      }
      return list;
    }

    boolean like(Node other) {
      if (kind != other.kind || num != other.num || parts.size() != other.parts.size()) {
        return false;
      }
      for (int i = 0; i < parts.size(); i++) {
        if (!parts.get(i).like(other.parts.get(i))) {
          return false;
        }
      }
      return true;
    }

    Node copy(int shift) {
      Node twin = new Node(kind, kind == NAME || kind == SET ? num + shift : num);
      for (Node part : parts) {
        twin.take(part.copy(shift));
      }
      return twin;
    }
  }

  static final class Routine {
    int params;
    Node body;
  }

  /** Ends a run, or what a LEAVE ends. */
  static final class Refused extends RuntimeException {
    private static final long serialVersionUID = 1L;
    final int why;
    final int step;

    Refused(int why, int step) {
      super(null, null, false, false);
      this.why = why;
      this.step = step;
    }
  }

  static final class Left extends RuntimeException {
    private static final long serialVersionUID = 1L;
    final int value;

    Left(int value) {
      super(null, null, false, false);
      this.value = value;
    }
  }

  static final class OutOfSteps extends RuntimeException {
    private static final long serialVersionUID = 1L;
  }

  /** A whole state: shape by numbers, so that it shares no node with any other state. */
  static final class Saved {
    Map<Integer, int[]> nodes = new HashMap<>();
    int[] bodies;
    int made;
  }

  List<Node> steps = new ArrayList<>(); // null: GONE
  List<Routine> routines = new ArrayList<>();
  Map<Integer, Integer> counts = new HashMap<>();
  Deque<Saved> past = new ArrayDeque<>();
  int[] row = new int[8];
  int[] ran = new int[4];
  int tookEver;
  int left;
  int open;
  int mostOpen;
  int[] laid;
  List<Integer> laidCalls;

  // ---- what is asked everywhere

  Node at(int step) {
    return step >= 0 && step < steps.size() ? steps.get(step) : null;
  }

  boolean isRoutine(int r) {
    return r >= 0 && r < routines.size();
  }

  Node root(Node node) {
    return node.parent == null ? node : root(node.parent);
  }

  int routineOf(Node node) {
    for (int r = 0; r < routines.size(); r++) {
      if (routines.get(r).body == root(node)) {
        return r;
      }
    }
    return NONE;
  }

  boolean loose(int step) {
    Node node = at(step);
    return node != null && node.parent == null && routineOf(node) == NONE;
  }

  int uses(int r) {
    int uses = routines.get(r).params;
    if (routines.get(r).body != null) {
      for (Node node : routines.get(r).body.all()) {
        if (node.kind == NAME || node.kind == SET) {
          uses = Math.max(uses, node.num + 1);
        }
      }
    }
    return uses;
  }

  int countOf(int step) {
    return counts.getOrDefault(step, 0);
  }

  // ---- steps, routines

  int tell(int kind, int num, int... parts) {
    TreeSet<Integer> once = new TreeSet<>();
    int high = 0;
    for (int part : parts) {
      if (!loose(part) || !once.add(part)) {
        return BAD;
      }
      high = Math.max(high, at(part).high());
    }
    if (steps.size() == 600 || high == 40) {
      return FULL;
    }
    Node node = new Node(kind, num);
    for (int part : parts) {
      node.take(at(part));
    }
    node.id = steps.size();
    steps.add(node);
    past.clear();
    return node.id;
  }

  int number(int v) {
    return tell(NUMBER, v);
  }

  int name(int k) {
    return k < 0 || k > 39 ? BAD : tell(NAME, k);
  }

  int act(int op, int x, int y) {
    return op < 0 || op > 5 ? BAD : tell(ACT, op, x, y);
  }

  int join(int kind, int t, int x, int y) {
    if (kind == 3) {
      return tell(PICK, 0, t, x, y);
    }
    if (kind == 5 || kind == 8 || kind == 10) {
      return tell(kind, 0, x, y);
    }
    return kind == 7 || kind == 9 ? tell(kind, 0, x) : BAD;
  }

  int set(int k, int x) {
    return k < 0 || k > 39 ? BAD : tell(SET, k, x);
  }

  int call(int r, int x, int y, int z) {
    if (!isRoutine(r)) {
      return BAD;
    }
    int[] all = {x, y, z};
    int[] some = new int[routines.get(r).params];
    System.arraycopy(all, 0, some, 0, some.length);
    return tell(CALL, r, some);
  }

  int routine(int params) {
    if (params < 0 || params > 3) {
      return BAD;
    }
    if (routines.size() == 10) {
      return FULL;
    }
    Routine routine = new Routine();
    routine.params = params;
    routines.add(routine);
    past.clear();
    return routines.size() - 1;
  }

  int body(int r, int step) {
    if (!isRoutine(r) || (step != -1 && !loose(step))) {
      return BAD;
    }
    keep(save());
    routines.get(r).body = step == -1 ? null : at(step);
    return uses(r);
  }

  int told(int step, int what) {
    if (step < 0 || step >= steps.size() || what < 0 || what > 8) {
      return STRANGE;
    }
    Node node = at(step);
    if (node == null) {
      return what == 0 ? -1 : what == 1 || what > 6 ? 0 : NONE;
    }
    switch (what) {
      case 0: return node.kind;
      case 1: return node.num;
      case 5: return node.parent == null ? NONE : node.parent.id;
      case 6: return routineOf(node);
      case 7: return countOf(step);
      case 8: return node.all().size();
      default: return what - 2 < node.parts.size() ? node.parts.get(what - 2).id : NONE;
    }
  }

  int about(int r, int what) {
    if (!isRoutine(r) || what < 0 || what > 5) {
      return BAD;
    }
    Routine routine = routines.get(r);
    int calls = 0;
    int callsOfIt = 0;
    for (Node node : steps) {
      if (node != null && node.kind == CALL) {
        calls += routineOf(node) == r ? 1 : 0;
        callsOfIt += routineOf(node) != NONE && node.num == r ? 1 : 0;
      }
    }
    switch (what) {
      case 0: return routine.params;
      case 1: return routine.body == null ? NONE : routine.body.id;
      case 2: return routine.body == null ? 0 : routine.body.all().size();
      case 3: return uses(r);
      case 4: return calls;
      default: return callsOfIt;
    }
  }

  int same(int x, int y) {
    return at(x) == null || at(y) == null ? BAD : at(x).like(at(y)) ? 1 : 0;
  }

  // ---- runs

  int run(int r, int a, int b, int c, int fuel) {
    if (!isRoutine(r) || fuel < 0 || fuel > 2000) {
      return BAD;
    }
    if (tookEver >= 60000) {
      return FULL;
    }
    left = fuel;
    open = 0;
    mostOpen = 0;
    int why = 0;
    ran = new int[] {0, 0, 0, NONE};
    try {
      if (routines.get(r).body == null) {
        throw new Refused(3, NONE);
      }
      ran[0] = inCall(r, new int[] {a, b, c});
    } catch (Refused refused) {
      why = refused.why;
      ran[3] = refused.step;
    }
    ran[1] = fuel - left;
    ran[2] = mostOpen;
    tookEver += ran[1];
    return why;
  }

  private int inCall(int r, int[] handed) {
    open++;
    mostOpen = Math.max(mostOpen, open);
    int[] names = new int[40];
    System.arraycopy(handed, 0, names, 0, routines.get(r).params);
    int value;
    try {
      value = does(routines.get(r).body, names);
    } catch (Left leaves) {
      value = leaves.value;
    }
    open--;
    return value;
  }

  private void pay(Node node, int cost) {
    if (cost > left) {
      throw new Refused(4, node.id);
    }
    left -= cost;
  }

  private void begun(Node node) {
    counts.merge(node.id, 1, Integer::sum);
  }

  private int does(Node node, int[] names) {
    List<Node> p = node.parts;
    switch (node.kind) {
      case NUMBER:
        begun(node);
        return node.num;
      case NAME:
        begun(node);
        return names[node.num];
      case BOTH:
        begun(node);
        does(p.get(0), names);
        return does(p.get(1), names);
      case BLOCK:
        begun(node);
        try {
          return does(p.get(0), names);
        } catch (Left leaves) {
          return leaves.value;
        }
      case CALL:
        return doesCall(node, names);
      default:
        pay(node, 1);
        begun(node);
        return doesPaid(node, names);
    }
  }

  private int doesCall(Node node, int[] names) {
    int[] handed = new int[3];
    for (int i = 0; i < node.parts.size(); i++) {
      handed[i] = does(node.parts.get(i), names);
    }
    if (routines.get(node.num).body == null) {
      throw new Refused(3, node.id);
    }
    pay(node, 4 + uses(node.num));
    begun(node);
    if (open == 12) {
      throw new Refused(5, node.id);
    }
    return inCall(node.num, handed);
  }

  private int doesPaid(Node node, int[] names) {
    List<Node> p = node.parts;
    if (node.kind == ACT) {
      int x = does(p.get(0), names);
      int y = does(p.get(1), names);
      if (node.num == 3 && y == 0) {
        throw new Refused(1, node.id);
      }
      return worth(node.num, x, y);
    }
    if (node.kind == PICK) {
      return does(p.get(0), names) != 0 ? does(p.get(1), names) : does(p.get(2), names);
    }
    if (node.kind == SET) {
      int x = does(p.get(0), names);
      names[node.num] = x;
      return x;
    }
    if (node.kind == LEAVE) {
      throw new Left(does(p.get(0), names));
    }
    if (node.kind == WHILE) {
      while (does(p.get(0), names) != 0) {
        does(p.get(1), names);
        pay(node, 1);
      }
      return 0;
    }
    int i = does(p.get(0), names);
    int v = node.kind == LAY ? does(p.get(1), names) : 0;
    if (i < 0 || i > 7) {
      throw new Refused(2, node.id);
    }
    if (node.kind == LAY) {
      row[i] = v;
    }
    return row[i];
  }

  static int worth(int op, int x, int y) {
    switch (op) {
      case 0: return x + y;
      case 1: return x - y;
      case 2: return x * y;
      case 3: return (int) ((long) x / y);
      case 4: return x < y ? 1 : 0;
      default: return x == y ? 1 : 0;
    }
  }

  int ran(int what) {
    return what < 0 || what > 3 ? STRANGE : ran[what];
  }

  int row(int i) {
    return i < 0 || i > 7 ? 0 : row[i];
  }

  int lay(int i, int v) {
    if (i < 0 || i > 7) {
      return BAD;
    }
    row[i] = v;
    return 1;
  }

  int clearCounts() {
    counts.clear();
    return 0;
  }

  // ---- melting

  private void keep(Saved saved) {
    past.addLast(saved);
    if (past.size() > 12) {
      past.removeFirst();
    }
  }

  private Saved save() {
    Saved saved = new Saved();
    saved.made = steps.size();
    for (Node node : steps) {
      if (node != null) {
        int[] shape = new int[2 + node.parts.size()];
        shape[0] = node.kind;
        shape[1] = node.num;
        for (int i = 0; i < node.parts.size(); i++) {
          shape[2 + i] = node.parts.get(i).id;
        }
        saved.nodes.put(node.id, shape);
      }
    }
    saved.bodies = new int[routines.size()];
    for (int r = 0; r < routines.size(); r++) {
      Node body = routines.get(r).body;
      saved.bodies[r] = body == null ? NONE : body.id;
    }
    return saved;
  }

  private void restore(Saved saved, int made) {
    steps.clear();
    for (int id = 0; id < made; id++) {
      int[] shape = saved.nodes.get(id);
      Node node = shape == null ? null : new Node(shape[0], shape[1]);
      if (node != null) {
        node.id = id;
      }
      steps.add(node);
    }
    for (Map.Entry<Integer, int[]> each : saved.nodes.entrySet()) {
      for (int i = 2; i < each.getValue().length; i++) {
        steps.get(each.getKey()).take(steps.get(each.getValue()[i]));
      }
    }
    for (int r = 0; r < routines.size(); r++) {
      routines.get(r).body = saved.bodies[r] == NONE ? null : steps.get(saved.bodies[r]);
    }
  }

  int undo() {
    if (past.isEmpty()) {
      return NO;
    }
    restore(past.removeLast(), steps.size());
    return 1;
  }

  private boolean callInBody(int step) {
    return at(step) != null && at(step).kind == CALL && routineOf(at(step)) != NONE;
  }

  private void putInPlace(Node old, Node by) {
    Node above = old.parent;
    if (above == null) {
      routines.get(routineOf(old)).body = by;
    } else {
      above.parts.set(above.parts.indexOf(old), by);
    }
    by.parent = above;
    old.parent = null;
  }

  int melt(int step) {
    if (!callInBody(step)) {
      return BAD;
    }
    Node call = at(step);
    Routine callee = routines.get(call.num);
    if (callee.body == null) {
      return NO;
    }
    int n = uses(routineOf(call));
    int used = uses(call.num);
    Saved saved = save();
    Node callerBody = root(call);
    Node what = new Node(BLOCK, 0, callee.body.copy(n));
    List<Node> kept = new ArrayList<>(call.parts);
    for (int k = used - 1; k >= 0; k--) {
      Node value = k < callee.params ? call.parts.get(k) : new Node(NUMBER, 0);
      what = new Node(BOTH, 0, new Node(SET, n + k, value), what);
    }
    boolean wasRoot = call.parent == null;
    List<Node> made = new ArrayList<>();
    gatherNew(what, kept, made);
    putInPlace(call, what);
    boolean tooMany = steps.size() + made.size() > 600 || n + used > 40;
    if (tooMany || (wasRoot ? what : callerBody).high() > 40) {
      restore(saved, saved.made);
      return FULL;
    }
    for (Node node : made) {
      node.id = steps.size();
      steps.add(node);
    }
    steps.set(step, null);
    keep(saved);
    return what.id;
  }

  private void gatherNew(Node node, List<Node> kept, List<Node> made) {
    if (kept.contains(node)) {
      return;
    }
    made.add(node);
    for (Node part : node.parts) {
      gatherNew(part, kept, made);
    }
  }

  int gain(int call) {
    return callInBody(call) ? 4 * countOf(call) : BAD;
  }

  int weight(int step) {
    if (!callInBody(step)) {
      return BAD;
    }
    Routine callee = routines.get(at(step).num);
    if (callee.body == null) {
      return NO;
    }
    int setsToNought = uses(at(step).num) - callee.params;
    return callee.params * 2 + setsToNought * 3 + 1 + callee.body.all().size() - 1;
  }

  int ahead(int r) {
    if (!isRoutine(r)) {
      return BAD;
    }
    if (routines.get(r).body == null) {
      return NO;
    }
    Saved saved = save();
    int before = routines.get(r).body.all().size();
    try {
      boolean more = true;
      while (more) {
        more = false;
        for (Node node : routines.get(r).body.all()) {
          if (better(node, r)) {
            more = true;
            break;
          }
        }
      }
    } catch (OutOfSteps full) {
      restore(saved, saved.made);
      return FULL;
    }
    keep(saved);
    return before - routines.get(r).body.all().size();
  }

  private void dies(Node node) {
    for (Node each : node.all()) {
      steps.set(each.id, null);
    }
  }

  private boolean becomes(Node node, Node part) {
    if (part.parent != null) {
      part.parent.parts.remove(part);
    }
    putInPlace(node, part);
    dies(node);
    return true;
  }

  private boolean becomesNumber(Node node, int v) {
    if (steps.size() == 600) {
      throw new OutOfSteps();
    }
    Node number = new Node(NUMBER, v);
    number.id = steps.size();
    steps.add(number);
    return becomes(node, number);
  }

  private boolean better(Node node, int r) {
    List<Node> p = node.parts;
    boolean firstIsNumber = !p.isEmpty() && p.get(0).kind == NUMBER;
    if (node.kind == ACT && firstIsNumber && p.get(1).kind == NUMBER) {
      boolean byNought = node.num == 3 && p.get(1).num == 0;
      return !byNought && becomesNumber(node, worth(node.num, p.get(0).num, p.get(1).num));
    }
    if (node.kind == PICK && firstIsNumber) {
      return becomes(node, p.get(0).num == 0 ? p.get(2) : p.get(1));
    }
    if (node.kind == WHILE && firstIsNumber && p.get(0).num == 0) {
      return becomesNumber(node, 0);
    }
    if (node.kind == BOTH && (firstIsNumber || p.get(0).kind == NAME)) {
      return becomes(node, p.get(1));
    }
    if (node.kind == BLOCK && !leaves(p.get(0))) {
      return becomes(node, p.get(0));
    }
    boolean sets = node.kind == BOTH && p.get(0).kind == SET;
    if (!sets || p.get(0).parts.get(0).kind != NUMBER || p.get(0).num < routines.get(r).params) {
      return false;
    }
    return fixes(node, p.get(0).num, p.get(0).parts.get(0).num, r);
  }

  private boolean fixes(Node both, int k, int v, int r) {
    List<Node> second = both.parts.get(1).all();
    List<Node> names = new ArrayList<>();
    for (Node node : routines.get(r).body.all()) {
      if (node.kind == SET && node.num == k && node != both.parts.get(0)) {
        return false;
      }
      if (node.kind == NAME && node.num == k) {
        names.add(node);
      }
    }
    if (!second.containsAll(names)) {
      return false;
    }
    for (Node name : names) {
      becomesNumber(name, v);
    }
    return becomes(both, both.parts.get(1));
  }

  private boolean leaves(Node node) {
    if (node.kind == LEAVE) {
      return true;
    }
    for (Node part : node.parts) {
      if (node.kind != BLOCK && leaves(part)) {
        return true;
      }
    }
    return false;
  }

  int drop() {
    if (routines.isEmpty()) {
      return NO;
    }
    keep(save());
    TreeSet<Integer> called = new TreeSet<>();
    reach(0, called);
    int dropped = 0;
    for (int r = 0; r < routines.size(); r++) {
      if (!called.contains(r) && routines.get(r).body != null) {
        routines.get(r).body = null;
        dropped++;
      }
    }
    return dropped;
  }

  private void reach(int r, TreeSet<Integer> called) {
    if (called.add(r) && routines.get(r).body != null) {
      for (Node node : routines.get(r).body.all()) {
        if (node.kind == CALL) {
          reach(node.num, called);
        }
      }
    }
  }

  private List<Integer> lookedAt(int r) {
    List<Integer> calls = new ArrayList<>();
    for (Node node : steps) {
      if (node != null && node.kind == CALL && routineOf(node) == r && node.num != r
          && routines.get(node.num).body != null && calls.size() < 12) {
        calls.add(node.id);
      }
    }
    return calls;
  }

  private int refusal(int r, int budget) {
    if (!isRoutine(r) || budget < 0 || budget > 1000) {
      return BAD;
    }
    return routines.get(r).body == null ? NO : 0;
  }

  int layout(int r, int budget) {
    if (refusal(r, budget) != 0) {
      return refusal(r, budget);
    }
    List<Integer> calls = lookedAt(r);
    laidCalls = new ArrayList<>();
    laid = new int[] {0, 0};
    for (int mask = 1; mask < 1 << calls.size(); mask++) {
      List<Integer> some = new ArrayList<>();
      int gain = 0;
      int weight = 0;
      for (int i = 0; i < calls.size(); i++) {
        if ((mask & 1 << i) != 0) {
          some.add(calls.get(i));
          gain += gain(calls.get(i));
          weight += weight(calls.get(i));
        }
      }
      boolean alike = gain == laid[0] && weight == laid[1];
      boolean above = gain > laid[0] || (gain == laid[0] && weight < laid[1]);
      if (weight <= budget && (above || (alike && earlier(some, laidCalls)))) {
        laidCalls = some;
        laid = new int[] {gain, weight};
      }
    }
    return laidCalls.size();
  }

  private static boolean earlier(List<Integer> one, List<Integer> other) {
    for (int i = 0; i < Math.min(one.size(), other.size()); i++) {
      if (!one.get(i).equals(other.get(i))) {
        return one.get(i) < other.get(i);
      }
    }
    return one.size() < other.size();
  }

  int laid(int what) {
    if (what < 0) {
      return BAD;
    }
    if (laid == null) {
      return NO;
    }
    if (what < 2) {
      return laid[what];
    }
    return what - 2 < laidCalls.size() ? laidCalls.get(what - 2) : NONE;
  }

  int next(int r, int budget) {
    if (refusal(r, budget) != 0) {
      return refusal(r, budget);
    }
    List<Integer> calls = new ArrayList<>(lookedAt(r));
    calls.removeIf(call -> weight(call) > budget);
    Collections.sort(calls, (x, y) -> {
      long one = (long) gain(x) * weight(y);
      long other = (long) gain(y) * weight(x);
      return one != other ? Long.compare(other, one) : Integer.compare(x, y);
    });
    return calls.isEmpty() ? NONE : calls.get(0);
  }

  int count(int what) {
    int gone = 0;
    int loose = 0;
    for (int step = 0; step < steps.size(); step++) {
      gone += at(step) == null ? 1 : 0;
      loose += loose(step) ? 1 : 0;
    }
    int missing = 0;
    for (Routine routine : routines) {
      missing += routine.body == null ? 1 : 0;
    }
    int[] answers = {steps.size(), gone, loose, routines.size(), missing, past.size()};
    return what < 0 || what > 5 ? BAD : answers[what];
  }
}
