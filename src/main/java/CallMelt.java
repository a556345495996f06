import java.util.Arrays;

/**
 * Calls of small routines melted into their callers: trees of steps that are run, counted and
 * priced, written out where they are called, worked ahead, and taken back again.
 */
public final class CallMelt {
  public static final int BAD = -1, NO = -2, FULL = -3, NONE = -4;

  private static final int NUMBER = 0, NAME = 1, ACT = 2, PICK = 3, SET = 4, BOTH = 5, CALL = 6;
  private static final int LEAVE = 7, WHILE = 8, REACH = 9, LAY = 10, BLOCK = 11, GONE = -1;
  private static final int ADD = 0, LESS = 1, TIMES = 2, DIVIDE = 3, BELOW = 4, ALIKE = 5;

  private static final int MOST_STEPS = 600;
  private static final int MOST_ROUTINES = 10;
  private static final int MOST_PARAMS = 3;
  private static final int MOST_PARTS = 3;
  private static final int MOST_NAMES = 40;
  private static final int MOST_HIGH = 40;
  private static final int MOST_KEPT = 12;
  private static final int MOST_OPEN = 12;
  private static final int MOST_LOOKED_AT = 12;
  private static final int MOST_FUEL = 2000;
  private static final int MOST_FUEL_EVER = 60000;
  private static final int MOST_BUDGET = 1000;
  private static final int ROW_PLACES = 8;
  private static final int CALL_COST = 4;
  private static final int NO_ANSWER = -1000000000;

  private static final int NOUGHT = 1, OFF_ROW = 2, MISSING = 3, NO_FUEL = 4, DEEP = 5;

  // By KIND. A CALL has as many PARTS as its ROUTINE has PARAMS, and is priced by its NAMES.
  private static final int[] PARTS_OF_KIND = {0, 0, 2, 3, 1, 2, 0, 1, 2, 1, 2, 1};
  private static final int[] COST_OF_KIND = {0, 0, 1, 1, 1, 0, 0, 1, 1, 1, 1, 0};

  private final Code code;
  private final Machine machine;
  private final Melter melter;
  private final Worker worker;
  private final Past past;
  private final Choice choice;

  public CallMelt() {
    code = new Code();
    machine = new Machine(code);
    melter = new Melter(code);
    worker = new Worker(code);
    past = new Past();
    choice = new Choice(code, melter, machine);
  }

  // ---- steps, routines

  public int number(int v) {
    return tellStep(NUMBER, v, 0, NONE, NONE, NONE);
  }

  public int name(int k) {
    return isName(k) ? tellStep(NAME, k, 0, NONE, NONE, NONE) : BAD;
  }

  public int act(int op, int x, int y) {
    return op >= ADD && op <= ALIKE ? tellStep(ACT, op, 2, x, y, NONE) : BAD;
  }

  public int join(int kind, int t, int x, int y) {
    switch (kind) {
      case PICK:
        return tellStep(kind, 0, 3, t, x, y);
      case BOTH:
      case WHILE:
      case LAY:
        return tellStep(kind, 0, 2, x, y, NONE);
      case LEAVE:
      case REACH:
        return tellStep(kind, 0, 1, x, NONE, NONE);
      default:
        return BAD;
    }
  }

  public int set(int k, int x) {
    return isName(k) ? tellStep(SET, k, 1, x, NONE, NONE) : BAD;
  }

  public int call(int r, int x, int y, int z) {
    return code.isRoutine(r) ? tellStep(CALL, r, code.paramsOf(r), x, y, z) : BAD;
  }

  public int routine(int params) {
    if (params < 0 || params > MOST_PARAMS) {
      return BAD;
    }
    int r = code.addRoutine(params);
    if (r == NONE) {
      return FULL;
    }
    past.forgetAll();
    return r;
  }

  public int body(int r, int step) {
    if (!code.isRoutine(r) || (step != -1 && !code.isLoose(step))) {
      return BAD;
    }
    past.hold(code.rows);
    past.keepHeld();
    code.setBody(r, step == -1 ? NONE : step);
    return code.usesOf(r);
  }

  public int told(int step, int what) {
    if (!code.isMade(step)) {
      return NO_ANSWER;
    }
    switch (what) {
      case 0:
        return code.kindOf(step);
      case 1:
        return code.numberOf(step);
      case 2:
      case 3:
      case 4:
        return code.partOf(step, what - 2);
      case 5:
        return code.parentOf(step);
      case 6:
        return code.routineOf(step);
      case 7:
        return code.isStep(step) ? machine.countOf(step) : 0;
      case 8:
        return code.sizeOf(step);
      default:
        return NO_ANSWER;
    }
  }

  public int about(int r, int what) {
    if (!code.isRoutine(r)) {
      return BAD;
    }
    switch (what) {
      case 0:
        return code.paramsOf(r);
      case 1:
        return code.bodyOf(r);
      case 2:
        return code.sizeOf(code.bodyOf(r));
      case 3:
        return code.usesOf(r);
      case 4:
        return code.callsIn(r);
      case 5:
        return code.callsOf(r);
      default:
        return BAD;
    }
  }

  public int same(int x, int y) {
    if (!code.isStep(x) || !code.isStep(y)) {
      return BAD;
    }
    return code.areAlike(x, y) ? 1 : 0;
  }

  // ---- runs

  public int run(int r, int a, int b, int c, int fuel) {
    if (!code.isRoutine(r) || fuel < 0 || fuel > MOST_FUEL) {
      return BAD;
    }
    if (machine.isSpent()) {
      return FULL;
    }
    return machine.start(r, a, b, c, fuel);
  }

  public int ran(int what) {
    return what < 0 || what > 3 ? NO_ANSWER : machine.latest(what);
  }

  public int row(int i) {
    return machine.reach(i);
  }

  public int lay(int i, int v) {
    return machine.put(i, v) ? 1 : BAD;
  }

  public int clearCounts() {
    machine.forgetCounts();
    return 0;
  }

  // ---- melting

  public int melt(int call) {
    if (!code.isCallInBody(call)) {
      return BAD;
    }
    if (code.isMissing(code.numberOf(call))) {
      return NO;
    }
    if (!melter.fits(call)) {
      return FULL;
    }
    past.hold(code.rows);
    past.keepHeld();
    return melter.writeOut(call);
  }

  public int gain(int call) {
    return code.isCallInBody(call) ? machine.gainOf(call) : BAD;
  }

  public int weight(int call) {
    if (!code.isCallInBody(call)) {
      return BAD;
    }
    return code.isMissing(code.numberOf(call)) ? NO : melter.weightOf(call);
  }

  public int ahead(int r) {
    if (!code.isRoutine(r)) {
      return BAD;
    }
    if (code.isMissing(r)) {
      return NO;
    }
    past.hold(code.rows);
    int before = code.sizeOf(code.bodyOf(r));
    if (!worker.workAhead(r)) {
      past.bringBackHeld(code.rows);
      return FULL;
    }
    past.keepHeld();
    return before - code.sizeOf(code.bodyOf(r));
  }

  public int drop() {
    if (!code.isRoutine(0)) {
      return NO;
    }
    past.hold(code.rows);
    past.keepHeld();
    return code.dropUncalled();
  }

  public int undo() {
    return past.takeBack(code.rows) ? 1 : NO;
  }

  public int layout(int r, int budget) {
    int refusal = refusalOfChoice(r, budget);
    return refusal != 0 ? refusal : choice.layOut(r, budget);
  }

  public int laid(int what) {
    if (what < 0) {
      return BAD;
    }
    return choice.hasLaidOut() ? choice.latest(what) : NO;
  }

  public int next(int r, int budget) {
    int refusal = refusalOfChoice(r, budget);
    return refusal != 0 ? refusal : choice.bestNext(r, budget);
  }

  public int count(int what) {
    switch (what) {
      case 0:
        return code.rows.made;
      case 1:
        return code.goneSteps();
      case 2:
        return code.looseSteps();
      case 3:
        return code.rows.routines;
      case 4:
        return code.missingRoutines();
      case 5:
        return past.size;
      default:
        return BAD;
    }
  }

  private int tellStep(int kind, int number, int parts, int x, int y, int z) {
    boolean xIsBad = parts > 0 && !code.isLoose(x);
    boolean yIsBad = parts > 1 && (!code.isLoose(y) || y == x);
    boolean zIsBad = parts > 2 && (!code.isLoose(z) || z == x || z == y);
    if (xIsBad || yIsBad || zIsBad) {
      return BAD;
    }
    int high = parts > 0 ? code.highOf(x) : 0;
    high = parts > 1 ? Math.max(high, code.highOf(y)) : high;
    high = parts > 2 ? Math.max(high, code.highOf(z)) : high;
    if (code.rows.made >= MOST_STEPS || high >= MOST_HIGH) {
      return FULL;
    }
    int step = code.add(kind, number);
    if (parts > 0) {
      code.append(step, x);
    }
    if (parts > 1) {
      code.append(step, y);
    }
    if (parts > 2) {
      code.append(step, z);
    }
    past.forgetAll();
    return step;
  }

  private int refusalOfChoice(int r, int budget) {
    if (!code.isRoutine(r) || budget < 0 || budget > MOST_BUDGET) {
      return BAD;
    }
    return code.isMissing(r) ? NO : 0;
  }

  private static boolean isName(int k) {
    return k >= 0 && k < MOST_NAMES;
  }

  /** What an ACT comes to; those that ask have refused a division by 0 already. */
  private static int reckon(int op, int x, int y) {
    switch (op) {
      case ADD:
        return x + y;
      case LESS:
        return x - y;
      case TIMES:
        return x * y;
      case DIVIDE:
        return y == 0 ? 0 : x / y;
      case BELOW:
        return x < y ? 1 : 0;
      default:
        return x == y ? 1 : 0;
    }
  }

  /** Steps and routines as bare rows, so that a whole state can be copied for undo(). */
  private static final class Rows {
    private final int[] kinds = new int[MOST_STEPS];
    private final int[] numbers = new int[MOST_STEPS];
    private final int[] parts = new int[MOST_STEPS * MOST_PARTS];
    private final int[] parents = new int[MOST_STEPS];
    private final int[] params = new int[MOST_ROUTINES];
    private final int[] bodies = new int[MOST_ROUTINES];
    private int made;
    private int routines;

    void copyFrom(Rows from) {
      System.arraycopy(from.kinds, 0, kinds, 0, from.made);
      System.arraycopy(from.numbers, 0, numbers, 0, from.made);
      System.arraycopy(from.parts, 0, parts, 0, from.made * MOST_PARTS);
      System.arraycopy(from.parents, 0, parents, 0, from.made);
      System.arraycopy(from.params, 0, params, 0, from.routines);
      System.arraycopy(from.bodies, 0, bodies, 0, from.routines);
      made = from.made;
      routines = from.routines;
    }

    boolean isStep(int step) {
      return step >= 0 && step < made && kinds[step] != GONE;
    }

    void clear(int step, int kind, int number) {
      if (step < 0 || step >= MOST_STEPS) {
        return;
      }
      kinds[step] = kind;
      numbers[step] = number;
      parents[step] = NONE;
      for (int place = 0; place < MOST_PARTS; place++) {
        parts[step * MOST_PARTS + place] = NONE;
      }
    }
  }

  /** The steps of one tree, each ahead of its parts, the first part whole ahead of the next. */
  private static final class Walk {
    private final int[] steps = new int[MOST_STEPS];
    private final int[] deep = new int[MOST_STEPS];
    private final int[] waiting = new int[MOST_HIGH * MOST_PARTS];
    private final int[] waitingDeep = new int[MOST_HIGH * MOST_PARTS];
    private int size;

    void over(Rows rows, int root) {
      size = 0;
      waiting[0] = root;
      waitingDeep[0] = 1;
      int top = rows.isStep(root) ? 1 : 0;
      while (top > 0 && size < MOST_STEPS) {
        top--;
        int step = waiting[top];
        int at = waitingDeep[top];
        steps[size] = step;
        deep[size] = at;
        size++;
        for (int place = MOST_PARTS - 1; place >= 0; place--) {
          int part = rows.parts[step * MOST_PARTS + place];
          if (rows.isStep(part) && top < waiting.length) {
            waiting[top] = part;
            waitingDeep[top] = at + 1;
            top++;
          }
        }
      }
    }
  }

  /** The steps and routines that stand now: what is asked of them, and how they are linked. */
  private static final class Code {
    private final Rows rows = new Rows();
    private final Walk walk = new Walk();
    // For those who look along a tree while the other list is used anew.
    private final Walk held = new Walk();

    boolean isMade(int step) {
      return step >= 0 && step < rows.made;
    }

    boolean isStep(int step) {
      return rows.isStep(step);
    }

    boolean isLoose(int step) {
      return rows.isStep(step) && rows.parents[step] == NONE && ownerOf(step) == NONE;
    }

    boolean isRoutine(int r) {
      return r >= 0 && r < rows.routines;
    }

    boolean isMissing(int r) {
      return bodyOf(r) == NONE;
    }

    boolean isCallInBody(int step) {
      return kindOf(step) == CALL && routineOf(step) != NONE;
    }

    int kindOf(int step) {
      return step >= 0 && step < rows.made ? rows.kinds[step] : GONE;
    }

    int numberOf(int step) {
      return step >= 0 && step < rows.made ? rows.numbers[step] : 0;
    }

    int partOf(int step, int place) {
      if (step < 0 || step >= rows.made || place < 0 || place >= MOST_PARTS) {
        return NONE;
      }
      return rows.parts[step * MOST_PARTS + place];
    }

    int parentOf(int step) {
      return step >= 0 && step < rows.made ? rows.parents[step] : NONE;
    }

    int paramsOf(int r) {
      return r >= 0 && r < rows.routines ? rows.params[r] : 0;
    }

    int bodyOf(int r) {
      return r >= 0 && r < rows.routines ? rows.bodies[r] : NONE;
    }

    /** The routine of which the step itself is the body. */
    int ownerOf(int step) {
      for (int r = 0; r < rows.routines; r++) {
        if (rows.bodies[r] == step) {
          return r;
        }
      }
      return NONE;
    }

    /** The routine in whose body the step stands. */
    int routineOf(int step) {
      if (!isStep(step)) {
        return NONE;
      }
      int root = step;
      for (int level = 0; level < MOST_HIGH && parentOf(root) != NONE; level++) {
        root = parentOf(root);
      }
      return ownerOf(root);
    }

    /** How many steps it stands below the outermost one of its tree. */
    int stepsAbove(int step) {
      int above = 0;
      for (int at = parentOf(step); at != NONE && above < MOST_HIGH; at = parentOf(at)) {
        above++;
      }
      return above;
    }

    int sizeOf(int step) {
      walk.over(rows, step);
      return walk.size;
    }

    int highOf(int step) {
      walk.over(rows, step);
      int high = 0;
      for (int i = 0; i < walk.size; i++) {
        high = Math.max(high, walk.deep[i]);
      }
      return high;
    }

    int usesOf(int r) {
      walk.over(rows, bodyOf(r));
      int uses = paramsOf(r);
      for (int i = 0; i < walk.size; i++) {
        int kind = kindOf(walk.steps[i]);
        if (kind == NAME || kind == SET) {
          uses = Math.max(uses, numberOf(walk.steps[i]) + 1);
        }
      }
      return uses;
    }

    int callsIn(int r) {
      walk.over(rows, bodyOf(r));
      int calls = 0;
      for (int i = 0; i < walk.size; i++) {
        calls += kindOf(walk.steps[i]) == CALL ? 1 : 0;
      }
      return calls;
    }

    int callsOf(int r) {
      int calls = 0;
      for (int step = 0; step < rows.made; step++) {
        calls += numberOf(step) == r && isCallInBody(step) ? 1 : 0;
      }
      return calls;
    }

    boolean areAlike(int x, int y) {
      walk.over(rows, x);
      held.over(rows, y);
      if (walk.size != held.size) {
        return false;
      }
      for (int i = 0; i < walk.size; i++) {
        int one = walk.steps[i];
        int other = held.steps[i];
        if (walk.deep[i] != held.deep[i] || kindOf(one) != kindOf(other)
            || numberOf(one) != numberOf(other)) {
          return false;
        }
      }
      return true;
    }

    int goneSteps() {
      int gone = 0;
      for (int step = 0; step < rows.made; step++) {
        gone += isStep(step) ? 0 : 1;
      }
      return gone;
    }

    int looseSteps() {
      int loose = 0;
      for (int step = 0; step < rows.made; step++) {
        loose += isLoose(step) ? 1 : 0;
      }
      return loose;
    }

    int missingRoutines() {
      int missing = 0;
      for (int r = 0; r < rows.routines; r++) {
        missing += isMissing(r) ? 1 : 0;
      }
      return missing;
    }

    int addRoutine(int params) {
      int r = rows.routines;
      if (r >= MOST_ROUTINES) {
        return NONE;
      }
      rows.params[r] = params;
      rows.bodies[r] = NONE;
      rows.routines = r + 1;
      return r;
    }

    void setBody(int r, int step) {
      if (r >= 0 && r < rows.routines) {
        rows.bodies[r] = step;
      }
    }

    /** A new loose step without parts; NONE where 600 stand already. */
    int add(int kind, int number) {
      int step = rows.made;
      if (step >= MOST_STEPS) {
        return NONE;
      }
      rows.clear(step, kind, number);
      rows.made = step + 1;
      return step;
    }

    /** A loose step becomes the next part of another. */
    void append(int step, int part) {
      for (int place = 0; place < MOST_PARTS && isStep(step) && isStep(part); place++) {
        if (partOf(step, place) == NONE) {
          rows.parts[step * MOST_PARTS + place] = part;
          rows.parents[part] = step;
          return;
        }
      }
    }

    /** A step is a part no more. */
    void loosen(int step) {
      int above = parentOf(step);
      if (above == NONE) {
        return;
      }
      for (int place = 0; place < MOST_PARTS; place++) {
        if (partOf(above, place) == step) {
          rows.parts[above * MOST_PARTS + place] = NONE;
        }
      }
      rows.parents[step] = NONE;
    }

    /** A step stands where another stood, as part or as body; the other one is loose then. */
    void takePlace(int old, int by) {
      if (!rows.isStep(old) || !rows.isStep(by)) {
        return;
      }
      loosen(by);
      int above = rows.parents[old];
      if (above == NONE) {
        setBody(ownerOf(old), by);
        return;
      }
      for (int place = 0; place < MOST_PARTS; place++) {
        if (partOf(above, place) == old) {
          rows.parts[above * MOST_PARTS + place] = by;
        }
      }
      rows.parents[by] = above;
      rows.parents[old] = NONE;
    }

    /** A loose step goes, with all that it still has. */
    void endTree(int root) {
      walk.over(rows, root);
      for (int i = 0; i < walk.size; i++) {
        rows.clear(walk.steps[i], GONE, 0);
      }
    }

    int dropUncalled() {
      // A bit for each routine; 0 is where it begins, and stays.
      int reached = 1;
      int known = 0;
      for (int round = 0; round < MOST_ROUTINES && reached != known; round++) {
        known = reached;
        reached = known | calledBy(known);
      }
      int dropped = 0;
      for (int r = 0; r < rows.routines; r++) {
        if ((reached >> r & 1) == 0 && !isMissing(r)) {
          rows.bodies[r] = NONE;
          dropped++;
        }
      }
      return dropped;
    }

    private int calledBy(int callers) {
      int called = 0;
      for (int r = 0; r < rows.routines; r++) {
        walk.over(rows, (callers >> r & 1) == 1 ? bodyOf(r) : NONE);
        for (int i = 0; i < walk.size; i++) {
          int step = walk.steps[i];
          called |= kindOf(step) == CALL ? 1 << numberOf(step) : 0;
        }
      }
      return called;
    }
  }

  /** Runs, with a stack of its own: twelve calls of forty levels are too deep for Java's. */
  private static final class Machine {
    private static final int MOST_FRAMES = MOST_OPEN * MOST_HIGH;
    private static final int KEPT = MOST_PARAMS + 1;
    // Each unit of fuel lets 600 steps be begun at most, with five moves each.
    private static final int MOST_MOVES = 10000000;

    private final Code code;
    private final int[] counts = new int[MOST_STEPS];
    private final int[] row = new int[ROW_PLACES];
    private final int[] uses = new int[MOST_ROUTINES];
    private final int[] names = new int[MOST_OPEN * MOST_NAMES];
    // By open call: the frame of the CALL that opened it, -1 for the first one.
    private final int[] openedBy = new int[MOST_OPEN];
    // By frame: its step, how many values came to it, and these.
    private final int[] steps = new int[MOST_FRAMES];
    private final int[] came = new int[MOST_FRAMES];
    private final int[] kept = new int[MOST_FRAMES * KEPT];
    private int top;
    private int open;
    private int left;
    private int tookEver;
    private int refusal;
    private int value;
    private int took;
    private int mostOpen;
    private int refused;

    Machine(Code code) {
      this.code = code;
    }

    boolean isSpent() {
      return tookEver >= MOST_FUEL_EVER;
    }

    int countOf(int step) {
      return step >= 0 && step < MOST_STEPS ? counts[step] : 0;
    }

    int gainOf(int call) {
      return CALL_COST * countOf(call);
    }

    void forgetCounts() {
      Arrays.fill(counts, 0);
    }

    int reach(int i) {
      return i >= 0 && i < ROW_PLACES ? row[i] : 0;
    }

    boolean put(int i, int v) {
      if (i < 0 || i >= ROW_PLACES) {
        return false;
      }
      row[i] = v;
      return true;
    }

    int latest(int what) {
      switch (what) {
        case 0:
          return value;
        case 1:
          return took;
        case 2:
          return mostOpen;
        default:
          return refused;
      }
    }

    int start(int r, int a, int b, int c, int fuel) {
      top = 0;
      open = 0;
      left = fuel;
      refusal = 0;
      value = 0;
      mostOpen = 0;
      refused = NONE;
      for (int each = 0; each < MOST_ROUTINES; each++) {
        uses[each] = code.usesOf(each);
      }
      if (code.isMissing(r)) {
        refuse(MISSING, NONE);
      } else {
        openCall(-1, code.paramsOf(r), a, b, c);
        begin(code.bodyOf(r));
      }
      for (int move = 0; move < MOST_MOVES && top > 0 && refusal == 0; move++) {
        int wanted = advance(top - 1);
        if (wanted != NONE) {
          begin(wanted);
        }
      }
      took = fuel - left;
      tookEver += took;
      return refusal;
    }

    private void refuse(int why, int step) {
      refusal = why;
      refused = step;
    }

    private boolean pay(int step, int cost) {
      if (cost > left) {
        refuse(NO_FUEL, step);
        return false;
      }
      left -= cost;
      return true;
    }

    private void countOne(int step) {
      if (step >= 0 && step < MOST_STEPS) {
        counts[step]++;
      }
    }

    private void begin(int step) {
      int kind = code.kindOf(step);
      int cost = kind >= 0 && kind < COST_OF_KIND.length ? COST_OF_KIND[kind] : 0;
      if (kind != CALL && !pay(step, cost)) {
        return;
      }
      if (kind != CALL) {
        countOne(step);
      }
      if (kind == NUMBER) {
        deliver(code.numberOf(step));
      } else if (kind == NAME) {
        deliver(readName(code.numberOf(step)));
      } else if (top < MOST_FRAMES) {
        steps[top] = step;
        came[top] = 0;
        top++;
      } else {
        refuse(DEEP, step);
      }
    }

    private void deliver(int v) {
      int frame = top - 1;
      if (frame < 0) {
        value = v;
      } else if (came[frame] < KEPT) {
        kept[frame * KEPT + came[frame]] = v;
        came[frame]++;
      }
    }

    private void finish(int v) {
      top--;
      deliver(v);
    }

    private int readName(int k) {
      return k >= 0 && k < MOST_NAMES && open > 0 ? names[(open - 1) * MOST_NAMES + k] : 0;
    }

    private void writeName(int k, int v) {
      if (k >= 0 && k < MOST_NAMES && open > 0) {
        names[(open - 1) * MOST_NAMES + k] = v;
      }
    }

    /** The step that is to be begun next; NONE where the frame was over, or refused. */
    private int advance(int frame) {
      int step = steps[frame];
      int kind = code.kindOf(step);
      int parts = kind >= 0 && kind < PARTS_OF_KIND.length ? PARTS_OF_KIND[kind] : 0;
      switch (kind) {
        case PICK:
          return advancePick(frame, step);
        case WHILE:
          return advanceWhile(frame, step);
        case CALL:
          return advanceCall(frame, step);
        default:
          if (came[frame] < parts) {
            return code.partOf(step, came[frame]);
          }
          conclude(frame, step, kind);
          return NONE;
      }
    }

    private int advancePick(int frame, int step) {
      if (came[frame] == 0) {
        return code.partOf(step, 0);
      }
      if (came[frame] == 1) {
        return code.partOf(step, kept[frame * KEPT] != 0 ? 1 : 2);
      }
      finish(kept[frame * KEPT + 1]);
      return NONE;
    }

    private int advanceWhile(int frame, int step) {
      if (came[frame] == 2) {
        // The first t was paid for when the WHILE was begun.
        if (!pay(step, COST_OF_KIND[WHILE])) {
          return NONE;
        }
        came[frame] = 0;
      }
      if (came[frame] == 0) {
        return code.partOf(step, 0);
      }
      if (kept[frame * KEPT] != 0) {
        return code.partOf(step, 1);
      }
      finish(0);
      return NONE;
    }

    private int advanceCall(int frame, int step) {
      int r = code.numberOf(step);
      int params = code.paramsOf(r);
      if (came[frame] < params) {
        return code.partOf(step, came[frame]);
      }
      if (came[frame] == params) {
        return enter(frame, step, r) ? code.bodyOf(r) : NONE;
      }
      open--;
      finish(kept[frame * KEPT + Math.min(params, MOST_PARAMS)]);
      return NONE;
    }

    private boolean enter(int frame, int step, int r) {
      if (code.isMissing(r)) {
        refuse(MISSING, step);
        return false;
      }
      if (!pay(step, CALL_COST + (r >= 0 && r < MOST_ROUTINES ? uses[r] : 0))) {
        return false;
      }
      countOne(step);
      if (open >= MOST_OPEN) {
        refuse(DEEP, step);
        return false;
      }
      int at = frame * KEPT;
      openCall(frame, code.paramsOf(r), kept[at], kept[at + 1], kept[at + 2]);
      return true;
    }

    private void openCall(int frame, int params, int a, int b, int c) {
      if (open >= MOST_OPEN) {
        return;
      }
      openedBy[open] = frame;
      Arrays.fill(names, open * MOST_NAMES, (open + 1) * MOST_NAMES, 0);
      open++;
      mostOpen = Math.max(mostOpen, open);
      writeName(0, params > 0 ? a : 0);
      writeName(1, params > 1 ? b : 0);
      writeName(2, params > 2 ? c : 0);
    }

    private void conclude(int frame, int step, int kind) {
      int first = kept[frame * KEPT];
      int second = kept[frame * KEPT + 1];
      if (kind == ACT) {
        concludeAct(step, first, second);
      } else if (kind == SET) {
        writeName(code.numberOf(step), first);
        finish(first);
      } else if (kind == BOTH) {
        finish(second);
      } else if (kind == LEAVE) {
        leaveWith(first);
      } else if (kind == REACH || kind == LAY) {
        concludePlace(step, kind, first, second);
      } else {
        finish(first);
      }
    }

    private void concludeAct(int step, int x, int y) {
      int op = code.numberOf(step);
      if (op == DIVIDE && y == 0) {
        refuse(NOUGHT, step);
      } else {
        finish(reckon(op, x, y));
      }
    }

    private void concludePlace(int step, int kind, int i, int v) {
      if (i < 0 || i >= ROW_PLACES) {
        refuse(OFF_ROW, step);
      } else if (kind == LAY) {
        put(i, v);
        finish(v);
      } else {
        finish(reach(i));
      }
    }

    private void leaveWith(int v) {
      int floor = open > 0 ? openedBy[open - 1] : -1;
      int frame = top - 1;
      while (frame > floor && code.kindOf(steps[frame]) != BLOCK) {
        frame--;
      }
      // A BLOCK goes with what it held; the CALL's own frame stays to take the value.
      top = frame > floor ? frame : floor + 1;
      deliver(v);
    }
  }

  /** Calls written out where they stand, and what that weighs. */
  private static final class Melter {
    private final Code code;
    private final Walk walk;
    // By depth: the latest step written there, under which the next deeper one belongs.
    private final int[] latest = new int[MOST_HIGH + 1];

    Melter(Code code) {
      this.code = code;
      walk = code.held;
    }

    /** The CALL itself goes: one fewer than the new steps. */
    int weightOf(int call) {
      int r = code.numberOf(call);
      int params = code.paramsOf(r);
      int setToNought = code.usesOf(r) - params;
      return 2 * params + 3 * setToNought + code.sizeOf(code.bodyOf(r));
    }

    boolean fits(int call) {
      int uses = code.usesOf(code.numberOf(call));
      int names = code.usesOf(code.routineOf(call)) + uses;
      int steps = code.rows.made + weightOf(call) + 1;
      int high = code.stepsAbove(call) + highWrittenOut(call, uses);
      return steps <= MOST_STEPS && names <= MOST_NAMES && high <= MOST_HIGH;
    }

    private int highWrittenOut(int call, int uses) {
      int r = code.numberOf(call);
      int high = uses + 1 + code.highOf(code.bodyOf(r));
      for (int k = 0; k < code.paramsOf(r); k++) {
        high = Math.max(high, k + 2 + code.highOf(code.partOf(call, k)));
      }
      return high;
    }

    int writeOut(int call) {
      int r = code.numberOf(call);
      int uses = code.usesOf(r);
      int params = code.paramsOf(r);
      int shift = code.usesOf(code.routineOf(call));
      // Listed ahead of the first change: a ROUTINE that calls itself is written off as it was.
      walk.over(code.rows, code.bodyOf(r));
      int outermost = NONE;
      int holder = NONE;
      for (int k = 0; k < uses; k++) {
        int both = code.add(BOTH, 0);
        int set = code.add(SET, shift + k);
        code.append(both, set);
        moveOrZero(set, k < params ? code.partOf(call, k) : NONE);
        code.append(holder, both);
        outermost = k == 0 ? both : outermost;
        holder = both;
      }
      int block = code.add(BLOCK, 0);
      code.append(holder, block);
      writeOff(block, shift);
      outermost = uses == 0 ? block : outermost;
      code.takePlace(call, outermost);
      code.endTree(call);
      return outermost;
    }

    private void moveOrZero(int set, int part) {
      if (part == NONE) {
        code.append(set, code.add(NUMBER, 0));
      } else {
        code.loosen(part);
        code.append(set, part);
      }
    }

    private void writeOff(int block, int shift) {
      latest[0] = block;
      for (int i = 0; i < walk.size; i++) {
        int step = walk.steps[i];
        int deep = walk.deep[i];
        int kind = code.kindOf(step);
        boolean isNamed = kind == NAME || kind == SET;
        int twin = code.add(kind, code.numberOf(step) + (isNamed ? shift : 0));
        if (deep > 0 && deep <= MOST_HIGH) {
          code.append(latest[deep - 1], twin);
          latest[deep] = twin;
        }
      }
    }
  }

  /** What stands fast worked ahead, one step at a time, from the outermost on. */
  private static final class Worker {
    private final Code code;
    private final Walk walk;
    private final Walk inner = new Walk();
    // By name, in the whole body.
    private final int[] sets = new int[MOST_NAMES];
    private final int[] names = new int[MOST_NAMES];
    private boolean isFull;
    // What was found for a step: the part that it becomes (NONE: the number), and the name for
    // which the number stands in that part from now on (NONE: for none).
    private int place;
    private int value;
    private int fixed;

    Worker(Code code) {
      this.code = code;
      walk = code.held;
    }

    /** False where the steps ran out; what was changed by then is for the caller to bring back. */
    boolean workAhead(int r) {
      isFull = false;
      int step = firstToChange(r);
      // Each change makes the body smaller, so there are fewer of them than steps.
      for (int changes = 0; changes < MOST_STEPS && step != NONE && !isFull; changes++) {
        if (fixed != NONE) {
          namesBecomeNumbers();
        }
        change(step);
        step = isFull ? NONE : firstToChange(r);
      }
      return !isFull;
    }

    private int firstToChange(int r) {
      walk.over(code.rows, code.bodyOf(r));
      tallyNames();
      for (int i = 0; i < walk.size; i++) {
        if (canChange(walk.steps[i], code.paramsOf(r))) {
          return walk.steps[i];
        }
      }
      return NONE;
    }

    private void tallyNames() {
      Arrays.fill(sets, 0);
      Arrays.fill(names, 0);
      for (int i = 0; i < walk.size; i++) {
        int k = code.numberOf(walk.steps[i]);
        int kind = code.kindOf(walk.steps[i]);
        if (kind == SET && isName(k)) {
          sets[k]++;
        } else if (kind == NAME && isName(k)) {
          names[k]++;
        }
      }
    }

    private boolean canChange(int step, int params) {
      place = NONE;
      value = 0;
      fixed = NONE;
      switch (code.kindOf(step)) {
        case ACT:
          return canReckon(step);
        case PICK:
          place = code.numberOf(code.partOf(step, 0)) != 0 ? 1 : 2;
          return code.kindOf(code.partOf(step, 0)) == NUMBER;
        case WHILE:
          int test = code.partOf(step, 0);
          return code.kindOf(test) == NUMBER && code.numberOf(test) == 0;
        case BOTH:
          place = 1;
          int kind = code.kindOf(code.partOf(step, 0));
          return kind == NUMBER || kind == NAME || (kind == SET && canFix(step, params));
        case BLOCK:
          place = 0;
          return !isLeft(step);
        default:
          return false;
      }
    }

    private boolean canReckon(int step) {
      int x = code.partOf(step, 0);
      int y = code.partOf(step, 1);
      if (code.kindOf(x) != NUMBER || code.kindOf(y) != NUMBER) {
        return false;
      }
      value = reckon(code.numberOf(step), code.numberOf(x), code.numberOf(y));
      return code.numberOf(step) != DIVIDE || code.numberOf(y) != 0;
    }

    /** Whether a BOTH sets a name that is a number from then on, and is asked for nowhere else. */
    private boolean canFix(int both, int params) {
      int set = code.partOf(both, 0);
      int k = code.numberOf(set);
      int number = code.partOf(set, 0);
      if (code.kindOf(number) != NUMBER || k < params || !isName(k) || sets[k] != 1) {
        return false;
      }
      inner.over(code.rows, code.partOf(both, 1));
      int within = 0;
      for (int i = 0; i < inner.size; i++) {
        within += isNameStep(inner.steps[i], k) ? 1 : 0;
      }
      fixed = k;
      value = code.numberOf(number);
      return within == names[k];
    }

    private boolean isNameStep(int step, int k) {
      return code.kindOf(step) == NAME && code.numberOf(step) == k;
    }

    /** Whether a LEAVE in the BLOCK would end it: one that no BLOCK further in keeps. */
    private boolean isLeft(int block) {
      inner.over(code.rows, block);
      // How deep the inner BLOCK stands in which we are.
      int keptBy = MOST_HIGH;
      for (int i = 1; i < inner.size; i++) {
        int kind = code.kindOf(inner.steps[i]);
        if (inner.deep[i] <= keptBy) {
          keptBy = kind == BLOCK ? inner.deep[i] : MOST_HIGH;
          if (kind == LEAVE) {
            return true;
          }
        }
      }
      return false;
    }

    private void change(int step) {
      if (place == NONE) {
        becomeNumber(step);
        return;
      }
      code.takePlace(step, code.partOf(step, place));
      code.endTree(step);
    }

    private void namesBecomeNumbers() {
      for (int i = 0; i < inner.size && !isFull; i++) {
        if (isNameStep(inner.steps[i], fixed)) {
          becomeNumber(inner.steps[i]);
        }
      }
    }

    private void becomeNumber(int step) {
      int number = code.add(NUMBER, value);
      if (number == NONE) {
        isFull = true;
        return;
      }
      code.takePlace(step, number);
      code.endTree(step);
    }
  }

  /** The states to which undo() goes back. */
  private static final class Past {
    // One row more than are kept: a change that is refused halfway must push none out.
    private static final int SLOTS = MOST_KEPT + 1;

    private final Rows[] slots = new Rows[SLOTS];
    private int first;
    private int size;

    void forgetAll() {
      size = 0;
    }

    void hold(Rows rows) {
      int at = (first + size) % SLOTS;
      if (slots[at] == null) {
        slots[at] = new Rows();
      }
      slots[at].copyFrom(rows);
    }

    void keepHeld() {
      if (size < MOST_KEPT) {
        size++;
      } else {
        first = (first + 1) % SLOTS;
      }
    }

    void bringBackHeld(Rows rows) {
      Rows held = slots[(first + size) % SLOTS];
      if (held != null) {
        rows.copyFrom(held);
      }
    }

    /** What was made since is gone, but its numbers are not given anew. */
    boolean takeBack(Rows rows) {
      if (size == 0) {
        return false;
      }
      int made = rows.made;
      size--;
      bringBackHeld(rows);
      for (int step = rows.made; step < made; step++) {
        rows.clear(step, GONE, 0);
      }
      rows.made = made;
      return true;
    }
  }

  /** Which calls of a routine are best melted. */
  private static final class Choice {
    private static final int MOST_TURNS = 1000000;

    private final Code code;
    private final Melter melter;
    private final Machine machine;
    private final int[] calls = new int[MOST_LOOKED_AT];
    private final int[] gains = new int[MOST_LOOKED_AT];
    private final int[] weights = new int[MOST_LOOKED_AT];
    private final int[] laidCalls = new int[MOST_LOOKED_AT];
    private final int[] picked = new int[MOST_LOOKED_AT];
    private int looked;
    private int pickedSize;
    private int laidGain;
    private int laidWeight;
    private int laidSize = NONE;

    Choice(Code code, Melter melter, Machine machine) {
      this.code = code;
      this.melter = melter;
      this.machine = machine;
    }

    boolean hasLaidOut() {
      return laidSize != NONE;
    }

    int latest(int what) {
      switch (what) {
        case 0:
          return laidGain;
        case 1:
          return laidWeight;
        default:
          return what >= 2 && what - 2 < laidSize ? laidCalls[what - 2] : NONE;
      }
    }

    /** Comes by all choices in the order in which the first of like ones counts. */
    int layOut(int r, int budget) {
      lookAt(r);
      pickedSize = 0;
      takePicked(0, 0);
      int gain = 0;
      int weight = 0;
      int i = 0;
      // Each of 4096 choices at most takes a turn to pick, one to put back, twelve to pass by.
      for (int turn = 0; turn < MOST_TURNS && (i < looked || pickedSize > 0); turn++) {
        if (i >= looked) {
          pickedSize--;
          i = picked[pickedSize];
          gain -= gains[i];
          weight -= weights[i];
        } else if (weight + weights[i] <= budget) {
          picked[pickedSize] = i;
          pickedSize++;
          gain += gains[i];
          weight += weights[i];
          if (gain > laidGain || (gain == laidGain && weight < laidWeight)) {
            takePicked(gain, weight);
          }
        }
        i++;
      }
      return laidSize;
    }

    private void takePicked(int gain, int weight) {
      laidGain = gain;
      laidWeight = weight;
      laidSize = pickedSize;
      for (int i = 0; i < pickedSize; i++) {
        laidCalls[i] = calls[picked[i]];
      }
    }

    int bestNext(int r, int budget) {
      lookAt(r);
      int best = NONE;
      for (int i = 0; i < looked; i++) {
        if (weights[i] <= budget && (best == NONE || isBetter(i, best))) {
          best = i;
        }
      }
      return best == NONE ? NONE : calls[best];
    }

    private boolean isBetter(int one, int other) {
      return (long) gains[one] * weights[other] > (long) gains[other] * weights[one];
    }

    private void lookAt(int r) {
      looked = 0;
      for (int step = 0; step < code.rows.made && looked < MOST_LOOKED_AT; step++) {
        boolean isOther = code.kindOf(step) == CALL && code.numberOf(step) != r;
        if (isOther && !code.isMissing(code.numberOf(step)) && code.routineOf(step) == r) {
          calls[looked] = step;
          gains[looked] = machine.gainOf(step);
          weights[looked] = melter.weightOf(step);
          looked++;
        }
      }
    }
  }
}
