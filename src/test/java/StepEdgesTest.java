/** What the document says of the edges of STEPS, ROUTINES and NAMES; promises 1 to 12. */
public final class StepEdgesTest extends Tests {
  // The KINDS that can be told; a CALL is of ROUTINE 0, which has 3 PARAMS here.
  private static final int[] TOLD = {NUMBER, NAME, ACT, PICK, SET, BOTH, CALL, LEAVE, WHILE, REACH, LAY};
  private static final int[] PARTS = {0, 0, 2, 3, 1, 2, 3, 1, 2, 1, 2};

  public static void main(String[] args) throws ReflectiveOperationException {
    runAll(StepEdgesTest.class);
  }

  private static CallMelt withRoutine(int params) {
    CallMelt x = new CallMelt();
    x.routine(params);
    return x;
  }

  /** So many STEPS, the first six of them LOOSE NUMBERS. */
  private static CallMelt filled(int steps) {
    CallMelt x = withRoutine(3);
    for (int v = 0; v < 6; v++) {
      x.number(v);
    }
    fill(x, steps);
    return x;
  }

  /** A STEP of that KIND; what a KIND does not look at is none that there is. */
  private static int tell(CallMelt x, int kind, int... parts) {
    switch (kind) {
      case NUMBER:
        return x.number(7);
      case NAME:
        return x.name(7);
      case ACT:
        return x.act(PRODUCT, parts[0], parts[1]);
      case SET:
        return x.set(7, parts[0]);
      case CALL:
        return x.call(0, parts[0], parts[1], parts[2]);
      case PICK:
        return x.join(PICK, parts[0], parts[1], parts[2]);
      case LEAVE:
      case REACH:
        return x.join(kind, -9, parts[0], -9);
      default:
        return x.join(kind, -9, parts[0], parts[1]);
    }
  }

  private static String of(int kind) {
    return "KIND " + kind;
  }

  /** Three NUMBERS of which one is put elsewhere, at each place of each KIND: BAD, for it alone. */
  private static void badPart(String what, CallMelt x, int bad) {
    int[] fine = {x.number(1), x.number(2), x.number(3)};
    int steps = x.count(0);
    int loose = x.count(2);
    for (int i = 2; i < TOLD.length; i++) {
      for (int place = 0; place < PARTS[i]; place++) {
        int[] parts = fine.clone();
        parts[place] = bad;
        due(of(TOLD[i]) + " of " + what + " at " + place, tell(x, TOLD[i], parts), BAD);
      }
    }
    due("count(0)", x.count(0), steps);
    due("count(2)", x.count(2), loose);
    due("PICK of the others", x.join(PICK, fine[0], fine[1], fine[2]), steps);
  }

  // ---- Terms: STEPS

  private static void stepsComeAsTheyCome() {
    says("STEPS 0, 1, .. as they come");
    for (int kind : TOLD) {
      CallMelt x = withRoutine(3);
      due("the first one", x.number(1), 0);
      due("the second one", x.number(2), 1);
      due("one that is refused", x.name(40), BAD);
      due("the third one", x.number(3), 2);
      due(of(kind), tell(x, kind, 0, 1, 2), 3);
      due("told(3, 0)", x.told(3, 0), kind);
      due("told(4, 0)", x.told(4, 0), STRANGE);
    }
  }

  private static void stepsAreSixHundredAtMost() {
    says("STEPS .., 600 at most; FULL: STEPS would be too many. Nothing changes then");
    for (int kind : TOLD) {
      CallMelt x = filled(MOST_STEPS - 1);
      due("count(0)", x.count(0), MOST_STEPS - 1);
      due(of(kind) + ", the 600th", tell(x, kind, 0, 1, 2), MOST_STEPS - 1);
      due("count(0)", x.count(0), MOST_STEPS);
      due("one more", tell(x, kind, 3, 4, 5), FULL);
      CallMelt y = filled(MOST_STEPS);
      int loose = y.count(2);
      due(of(kind) + ", the 601st", tell(y, kind, 0, 1, 2), FULL);
      due("count(0)", y.count(0), MOST_STEPS);
      due("count(2)", y.count(2), loose);
      due("told(600, 0)", y.told(MOST_STEPS, 0), STRANGE);
      due("told(0, 5)", y.told(0, 5), NONE);
    }
  }

  private static void refusedBadAheadOfFull() {
    says("Refused, the first of these: BAD, NO, FULL");
    CallMelt x = filled(MOST_STEPS);
    due("name(-1)", x.name(-1), BAD);
    due("name(40)", x.name(40), BAD);
    due("act(-1, ..)", x.act(-1, 0, 1), BAD);
    due("act(6, ..)", x.act(6, 0, 1), BAD);
    due("set(-1, ..)", x.set(-1, 0), BAD);
    due("set(40, ..)", x.set(40, 0), BAD);
    due("call(3, ..)", x.call(3, 0, 1, 2), BAD);
    due("join(6, ..)", x.join(6, 0, 1, 2), BAD);
    for (int i = 2; i < TOLD.length; i++) {
      for (int place = 0; place < PARTS[i]; place++) {
        int[] parts = {0, 1, 2};
        parts[place] = MOST_STEPS;
        due(of(TOLD[i]) + " at " + place, tell(x, TOLD[i], parts), BAD);
      }
    }
    CallMelt y = withRoutine(0);
    int h = high(y, 40);
    due("PICK of one twice, 41 HIGH", y.join(PICK, h, h, y.number(1)), BAD);
    due("ACT of none, 41 HIGH", y.act(0, h, -1), BAD);
    due("SET 40, 41 HIGH", y.set(40, h), BAD);
  }

  private static void partOfOneOther() {
    says("each is PART of one other at most");
    CallMelt x = withRoutine(3);
    int part = x.number(1);
    x.set(0, part);
    badPart("a PART", x, part);
    due("body() of a PART", x.body(0, part), BAD);
  }

  private static void bodyOfOneRoutine() {
    says("or the BODY of one ROUTINE, at most");
    CallMelt x = withRoutine(3);
    int body = x.number(1);
    x.body(0, body);
    badPart("a BODY", x, body);
    x.routine(0);
    due("body() of a BODY", x.body(1, body), BAD);
    due("body() of its own", x.body(0, body), BAD);
    due("about(0, 1)", x.about(0, 1), body);
    due("about(1, 1)", x.about(1, 1), NONE);
  }

  private static void neitherIsLoose() {
    says("one that is neither is LOOSE");
    CallMelt x = withRoutine(0);
    int one = x.number(1);
    int two = x.number(2);
    due("told, LOOSE", x.count(2), 2);
    x.body(0, one);
    due("a BODY is not", x.count(2), 1);
    x.body(0, two);
    due("the one it had is", x.count(2), 1);
    due("PART of another", x.set(0, one), 2);
    due("a PART is not", x.count(2), 1);
    x.body(0, -1);
    due("the BODY of a MISSING one is", x.count(2), 2);
    due("PART of another", x.set(0, two), 3);
    due("told(two, 5)", x.told(two, 5), 3);
    due("SET 0 of SET 0", x.set(0, 3), 4);
    due("PARTS of a LOOSE one are not", x.count(2), 2);
  }

  private static void noSuchStep() {
    says("BAD: a number is none that is told, there is no such thing");
    CallMelt x = withRoutine(3);
    badPart("-1", x, -1);
    badPart("the least", x, LEAST);
    badPart("the most", x, MOST);
    badPart("600", x, MOST_STEPS);
    badPart("the next one", x, x.count(0) + 3);
    due("the last one", x.set(0, x.count(0) - 1), x.count(0) - 1);
    CallMelt y = withRoutine(3);
    y.number(1);
    due("STEP 0", y.set(0, 0), 1);
  }

  private static void goneStep() {
    says("BAD: a STEP that is GONE");
    CallMelt x = withRoutine(3);
    int gone = x.act(SUM, x.number(1), x.number(2));
    x.body(0, gone);
    due("ahead(0)", x.ahead(0), 2);
    badPart("a GONE one", x, gone);
    due("body()", x.body(0, gone), BAD);
    due("same()", x.same(gone, x.about(0, 1)), BAD);
    due("same(), second", x.same(x.about(0, 1), gone), BAD);
    due("melt()", x.melt(gone), BAD);
    due("gain()", x.gain(gone), BAD);
    due("weight()", x.weight(gone), BAD);
  }

  private static void fortyHigh() {
    says("A STEP is as HIGH as 1 and the HIGHEST of its PARTS, 40 at most");
    for (int i = 2; i < TOLD.length; i++) {
      for (int place = 0; place < PARTS[i]; place++) {
        CallMelt x = withRoutine(3);
        int[] parts = {x.number(1), x.number(2), x.number(3)};
        parts[place] = high(x, 39);
        String what = of(TOLD[i]) + " at " + place;
        int step = tell(x, TOLD[i], parts);
        due(what + ", 40 HIGH", step, x.count(0) - 1);
        due(what + ", 41 HIGH", x.set(0, step), FULL);
        due("count(0)", x.count(0), step + 1);
        CallMelt y = withRoutine(3);
        int[] higher = {y.number(1), y.number(2), y.number(3)};
        higher[place] = high(y, 40);
        int steps = y.count(0);
        due(what + ", one of 40", tell(y, TOLD[i], higher), FULL);
        due("count(0)", y.count(0), steps);
        due("told(part, 5)", y.told(higher[place], 5), NONE);
      }
    }
  }

  private static void highestOfAll() {
    says("as HIGH as 1 and the HIGHEST of its PARTS");
    for (int place = 0; place < 3; place++) {
      CallMelt x = new CallMelt();
      int[] parts = {high(x, 37), high(x, 37), high(x, 37)};
      parts[place] = x.set(0, parts[place]);
      int step = x.join(PICK, parts[0], parts[1], parts[2]);
      due("39 HIGH", step, x.count(0) - 1);
      int last = x.set(0, step);
      due("40 HIGH", last, step + 1);
      due("41 HIGH", x.set(0, last), FULL);
    }
  }

  /** PICKS of PICKS, 40 HIGH, the next one always at that place; all of them are done. */
  private static int tower(CallMelt x, int place) {
    int step = x.number(40);
    for (int high = 2; high <= 40; high++) {
      int[] parts = {0, 0, 0};
      for (int i = 0; i < 3; i++) {
        parts[i] = i == place ? step : x.number(i == 0 && place == 2 ? 0 : high);
      }
      step = x.join(PICK, parts[0], parts[1], parts[2]);
    }
    return step;
  }

  private static void fortyHighAndWide() {
    says("40 at most; 8 how many STEPS it has, itself, PARTS, theirs");
    for (int place = 0; place < 3; place++) {
      CallMelt x = withRoutine(0);
      int one = tower(x, place);
      int two = tower(x, place);
      due("told(one, 8)", x.told(one, 8), 1 + 39 * 3);
      due("told(one, 5)", x.told(one, 5), NONE);
      due("SET of it", x.set(0, one), FULL);
      due("same()", x.same(one, two), 1);
      due("body()", x.body(0, one), 0);
      due("about(0, 2)", x.about(0, 2), 1 + 39 * 3);
      due("run()", x.run(0, 0, 0, 0, 39), 0);
      due("ran(0)", x.ran(0), 40);
      due("ahead()", x.ahead(0), 39 * 3);
    }
  }

  // ---- Terms: KINDS

  private static void kindsHaveParts() {
    says("0 NUMBER v. 1 NAME k. 2 ACT op, x, y. 3 PICK t, x, y. 4 SET k, x. 5 BOTH x, y. .."
        + " 7 LEAVE x. 8 WHILE t, x. 9 REACH x. 10 LAY x, y");
    int[] numbers = {7, 7, PRODUCT, 0, 7, 0, 0, 0, 0, 0, 0};
    for (int i = 0; i < TOLD.length; i++) {
      CallMelt x = withRoutine(3);
      int[] parts = {x.number(1), x.number(2), x.number(3)};
      int step = tell(x, TOLD[i], parts);
      due(of(TOLD[i]) + ", 0", x.told(step, 0), TOLD[i]);
      due(of(TOLD[i]) + ", 1", x.told(step, 1), numbers[i]);
      for (int place = 0; place < 3; place++) {
        boolean has = place < PARTS[i];
        due(of(TOLD[i]) + ", PART " + place, x.told(step, 2 + place), has ? parts[place] : NONE);
        due("told(part, 5)", x.told(parts[place], 5), has ? step : NONE);
      }
      due(of(TOLD[i]) + ", 8", x.told(step, 8), 1 + PARTS[i]);
    }
  }

  private static void callsHaveAsManyPartsAsParams() {
    says("6 CALL r, with as many PARTS as r has PARAMS");
    CallMelt x = new CallMelt();
    for (int params = 0; params <= 3; params++) {
      int r = x.routine(params);
      int[] handed = {-1, LEAST, MOST};
      int[] due = {NONE, NONE, NONE};
      for (int i = 0; i < params; i++) {
        handed[i] = x.number(i);
        due[i] = handed[i];
      }
      int step = x.call(r, handed[0], handed[1], handed[2]);
      due("call() of " + params, step, x.count(0) - 1);
      due("told(.., 1)", x.told(step, 1), r);
      for (int i = 0; i < 3; i++) {
        due("told(.., " + (2 + i) + ") of " + params, x.told(step, 2 + i), due[i]);
      }
      due("told(.., 8)", x.told(step, 8), 1 + params);
    }
    for (int params = 1; params <= 3; params++) {
      int[] handed = {x.number(1), x.number(2), x.number(3)};
      handed[params - 1] = -1;
      due("call(), one too few", x.call(params, handed[0], handed[1], handed[2]), BAD);
    }
  }

  private static void operations() {
    says("An ACT (op 0 to 5; x, y two STEPS, not one twice). BAD");
    CallMelt x = new CallMelt();
    int a = x.number(1);
    int b = x.number(2);
    due("op -1", x.act(-1, a, b), BAD);
    due("op 6", x.act(6, a, b), BAD);
    due("op least", x.act(LEAST, a, b), BAD);
    due("op most", x.act(MOST, a, b), BAD);
    due("one twice", x.act(SUM, a, a), BAD);
    due("count(0)", x.count(0), 2);
    for (int op = 0; op <= 5; op++) {
      int step = x.act(op, x.number(1), x.number(2));
      due("op " + op, step, x.count(0) - 1);
      due("told(.., 1)", x.told(step, 1), op);
    }
  }

  private static void kindsThatAreNone() {
    says("A STEP of KIND 3, 5, 8, 10, 7, 9. BAD: also kinds that are none of these");
    CallMelt x = new CallMelt();
    int a = x.number(1);
    int b = x.number(2);
    int c = x.number(3);
    for (int kind = -2; kind < 14; kind++) {
      boolean fine = kind == 3 || kind == 5 || kind >= 7 && kind <= 10;
      if (!fine) {
        due("join(" + kind + ", ..)", x.join(kind, a, b, c), BAD);
      }
    }
    due("join(least, ..)", x.join(LEAST, a, b, c), BAD);
    due("join(most, ..)", x.join(MOST, a, b, c), BAD);
    due("count(0)", x.count(0), 3);
    due("count(2)", x.count(2), 3);
  }

  private static void oneStepTwice() {
    says("BAD: one STEP twice");
    int[][] twice = {{0, 0, 1}, {0, 1, 0}, {1, 0, 0}, {0, 0, 0}};
    for (int i = 2; i < TOLD.length; i++) {
      CallMelt x = withRoutine(3);
      fill(x, 2);
      for (int[] parts : twice) {
        boolean seen = PARTS[i] == 3 || PARTS[i] == 2 && parts[0] == parts[1];
        if (seen) {
          due(of(TOLD[i]), tell(x, TOLD[i], parts), BAD);
        }
      }
      due("count(0)", x.count(0), 2);
      due("count(2)", x.count(2), 2);
    }
  }

  private static void othersAreNotLookedAt() {
    says("5, 8, 10 (x, y; t is not looked at), 7, 9 (x alone)");
    CallMelt x = new CallMelt();
    for (int kind : new int[] {BOTH, WHILE, LAY}) {
      int a = x.number(1);
      int b = x.number(2);
      int step = x.join(kind, a, a, b);
      due("t is x", step, b + 1);
      due("told(.., 2)", x.told(step, 2), a);
      due("told(.., 3)", x.told(step, 3), b);
      due("told(.., 4)", x.told(step, 4), NONE);
      due("y is none", x.join(kind, a, step, -1), BAD);
    }
    for (int kind : new int[] {LEAVE, REACH}) {
      int a = x.number(1);
      int step = x.join(kind, a, a, a);
      due("t and y are x", step, a + 1);
      due("told(.., 2)", x.told(step, 2), a);
      due("told(.., 3)", x.told(step, 3), NONE);
      due("x is none", x.join(kind, step, -1, step), BAD);
    }
  }

  private static void anyNumber() {
    says("NUMBER v");
    CallMelt x = new CallMelt();
    int[] some = {LEAST, LEAST + 1, -1, 0, 1, 39, 40, MOST - 1, MOST};
    for (int v : some) {
      int step = x.number(v);
      due("number(" + v + ")", step, x.count(0) - 1);
      due("told(.., 1)", x.told(step, 1), v);
    }
  }

  // ---- Terms: ROUTINES and NAMES

  private static void tenRoutines() {
    says("ROUTINES 0 .. 9 as they come; FULL: ROUTINES would be too many");
    CallMelt x = new CallMelt();
    for (int r = 0; r < 10; r++) {
      due("about(" + r + ", 0), not yet", x.about(r, 0), BAD);
      due("call(" + r + ", ..), not yet", x.call(r, 0, 0, 0), BAD);
      due("routine(), BAD", x.routine(4), BAD);
      due("routine()", x.routine(0), r);
      due("about(" + r + ", 0)", x.about(r, 0), 0);
      due("count(3)", x.count(3), r + 1);
    }
    due("an 11th", x.routine(0), FULL);
    due("an 11th, BAD", x.routine(-1), BAD);
    due("an 11th, BAD", x.routine(4), BAD);
    due("count(3)", x.count(3), 10);
    due("call(9, ..)", x.call(9, 0, 0, 0), 0);
    due("call(10, ..)", x.call(10, 0, 0, 0), BAD);
    due("body(9, 0)", x.body(9, 0), 0);
    due("run(9, ..)", x.run(9, 0, 0, 0, 0), FUEL);
    due("about(10, 0)", x.about(10, 0), BAD);
  }

  private static void zeroToThreeParams() {
    says("PARAMS (0 to 3)");
    CallMelt x = new CallMelt();
    due("routine(-1)", x.routine(-1), BAD);
    due("routine(0)", x.routine(0), 0);
    due("routine(1)", x.routine(1), 1);
    due("routine(2)", x.routine(2), 2);
    due("routine(3)", x.routine(3), 3);
    due("routine(4)", x.routine(4), BAD);
    due("routine(least)", x.routine(LEAST), BAD);
    due("routine(most)", x.routine(MOST), BAD);
    for (int r = 0; r < 4; r++) {
      due("about(" + r + ", 0)", x.about(r, 0), r);
    }
    due("count(3)", x.count(3), 4);
  }

  private static void missingAtFirst() {
    says("a BODY (MISSING at first)");
    CallMelt x = withRoutine(2);
    int[] want = {2, NONE, 0, 2, 0, 0};
    for (int what = 0; what < want.length; what++) {
      due("about(0, " + what + ")", x.about(0, what), want[what]);
    }
    due("count(4)", x.count(4), 1);
    due("run()", x.run(0, 0, 0, 0, 0), MISSING);
    due("ahead()", x.ahead(0), NO);
    due("layout()", x.layout(0, 0), NO);
    due("next()", x.next(0, 0), NO);
    x.body(0, x.number(1));
    due("count(4), with a BODY", x.count(4), 0);
    due("run(), with a BODY", x.run(0, 0, 0, 0, 0), 0);
    due("ahead(), with a BODY", x.ahead(0), 0);
    due("layout(), with a BODY", x.layout(0, 0), 0);
    due("next(), with a BODY", x.next(0, 0), NONE);
  }

  private static void fortyNames() {
    says("NAMES are 0 .. 39");
    CallMelt x = new CallMelt();
    due("name(-1)", x.name(-1), BAD);
    due("name(40)", x.name(40), BAD);
    due("name(least)", x.name(LEAST), BAD);
    due("name(most)", x.name(MOST), BAD);
    due("name(0)", x.name(0), 0);
    due("name(39)", x.name(39), 1);
    due("told(0, 1)", x.told(0, 1), 0);
    due("told(1, 1)", x.told(1, 1), 39);
    due("set(-1, ..)", x.set(-1, 0), BAD);
    due("set(40, ..)", x.set(40, 0), BAD);
    due("set(least, ..)", x.set(LEAST, 0), BAD);
    due("set(most, ..)", x.set(MOST, 0), BAD);
    due("set(0, ..)", x.set(0, 0), 2);
    due("set(39, ..)", x.set(39, 1), 3);
    due("told(2, 1)", x.told(2, 1), 0);
    due("told(3, 1)", x.told(3, 1), 39);
  }

  /** How many NAMES a ROUTINE with so many PARAMS and a BODY (or none) USES, asked in two ways. */
  private static void uses(CallMelt x, int params, int step, int want) {
    int r = x.routine(params);
    due("body(): " + params + " PARAMS", x.body(r, step), want);
    due("about(r, 3)", x.about(r, 3), want);
  }

  private static void namesThatAreUsed() {
    says("A ROUTINE USES NAMES below the number that is one more than the greatest NAME (of NAME,"
        + " SET) in its BODY");
    CallMelt x = new CallMelt();
    uses(x, 0, x.name(0), 1);
    uses(x, 0, x.name(39), 40);
    uses(x, 0, x.set(0, x.number(1)), 1);
    uses(x, 0, x.set(39, x.number(1)), 40);
    uses(x, 0, x.set(5, x.name(6)), 7);
    uses(x, 0, x.set(6, x.name(5)), 7);
    uses(x, 0, x.join(PICK, x.name(9), x.number(1), x.name(3)), 10);
    uses(x, 0, x.join(PICK, x.name(2), x.number(1), x.name(3)), 4);
    CallMelt y = new CallMelt();
    int r = y.routine(1);
    y.body(r, y.name(20));
    uses(y, 0, y.call(r, y.name(4), 0, 0), 5);
    int deep = y.name(11);
    for (int level = 1; level < 40; level++) {
      deep = leave(y, deep);
    }
    uses(y, 0, deep, 12);
  }

  private static void numbersAreNoNames() {
    says("the greatest NAME (of NAME, SET)");
    CallMelt x = new CallMelt();
    for (int r = 0; r < 5; r++) {
      x.routine(0);
    }
    uses(x, 0, x.number(30), 0);
    uses(x, 0, x.act(ALIKE, x.number(9), x.number(8)), 0);
    uses(x, 0, x.call(4, 0, 0, 0), 0);
    uses(x, 0, x.join(PICK, x.number(1), x.number(2), x.number(3)), 0);
    uses(x, 2, x.act(ALIKE, x.number(9), x.number(8)), 2);
  }

  private static void paramsThatAreMore() {
    says("or its PARAMS, if these are more");
    CallMelt x = new CallMelt();
    uses(x, 3, x.number(1), 3);
    uses(x, 3, x.name(1), 3);
    uses(x, 3, x.name(2), 3);
    uses(x, 3, x.name(3), 4);
    uses(x, 1, x.name(0), 1);
    uses(x, 1, x.set(1, x.number(0)), 2);
    uses(x, 0, -1, 0);
    uses(x, 3, -1, 3);
  }

  // ---- Promises 1, 9 to 12

  private static void nothingAtFirst() {
    says("No STEPS, no ROUTINES; THE ROW is 0s");
    CallMelt x = new CallMelt();
    for (int what = 0; what < 6; what++) {
      due("count(" + what + ")", x.count(what), 0);
    }
    for (int i = 0; i < 8; i++) {
      due("row(" + i + ")", x.row(i), 0);
    }
    due("told(0, 0)", x.told(0, 0), STRANGE);
    due("about(0, 0)", x.about(0, 0), BAD);
    due("same(0, 0)", x.same(0, 0), BAD);
    due("body(0, -1)", x.body(0, -1), BAD);
    due("body(0, 0)", x.body(0, 0), BAD);
    due("undo()", x.undo(), NO);
    due("drop()", x.drop(), NO);
  }

  private static void bodiesOfRoutines() {
    says("A LOOSE STEP is the BODY of a ROUTINE; -1: it is MISSING. BAD");
    CallMelt x = new CallMelt();
    x.routine(0);
    x.routine(0);
    int one = x.number(1);
    int two = x.number(2);
    int[] none = {-1, 2, 10, LEAST, MOST};
    for (int r : none) {
      due("body(" + r + ", one)", x.body(r, one), BAD);
      due("body(" + r + ", -1)", x.body(r, -1), BAD);
    }
    int[] noStep = {-2, 2, MOST_STEPS, LEAST, MOST};
    for (int step : noStep) {
      due("body(0, " + step + ")", x.body(0, step), BAD);
    }
    due("count(5)", x.count(5), 0);
    due("body(0, one)", x.body(0, one), 0);
    due("body(1, two)", x.body(1, two), 0);
    due("told(one, 6)", x.told(one, 6), 0);
    due("told(two, 6)", x.told(two, 6), 1);
    due("body(1, -1)", x.body(1, -1), 0);
    due("about(1, 1)", x.about(1, 1), NONE);
    due("told(two, 6), LOOSE", x.told(two, 6), NONE);
    due("body(1, -1), MISSING already", x.body(1, -1), 0);
    due("body(0, two)", x.body(0, two), 0);
    due("told(one, 6), the one it had", x.told(one, 6), NONE);
  }

  private static void toldWhat() {
    says("Of a STEP: 0 KIND .. 8 how many STEPS. BAD answers -1000000000");
    CallMelt x = withRoutine(0);
    int one = x.name(9);
    int two = x.set(4, one);
    x.body(0, two);
    x.run(0, 0, 0, 0, 9);
    int[] ofName = {NAME, 9, NONE, NONE, NONE, two, 0, 1, 1};
    int[] ofSet = {SET, 4, one, NONE, NONE, NONE, 0, 1, 2};
    for (int what = 0; what < 9; what++) {
      due("told(one, " + what + ")", x.told(one, what), ofName[what]);
      due("told(two, " + what + ")", x.told(two, what), ofSet[what]);
    }
    int[] strange = {-1, 9, LEAST, MOST};
    for (int what : strange) {
      due("told(two, " + what + ")", x.told(two, what), STRANGE);
    }
    int[] none = {-1, 2, MOST_STEPS, LEAST, MOST};
    for (int step : none) {
      for (int what = 0; what < 9; what++) {
        due("told(" + step + ", " + what + ")", x.told(step, what), STRANGE);
      }
    }
  }

  private static void toldOfOneThatIsGone() {
    says("-1: GONE. Of one that is GONE 1, 7, 8 are 0, 2 to 6 NONE");
    CallMelt x = withRoutine(0);
    int t = x.set(6, x.number(7));
    int step = x.act(PRODUCT, x.number(3), x.number(4));
    int all = both(x, t, step);
    x.body(0, all);
    x.run(0, 0, 0, 0, 9);
    x.ahead(0);
    int[] want = {GONE, 0, NONE, NONE, NONE, NONE, NONE, 0, 0};
    for (int gone = 0; gone <= all; gone++) {
      for (int what = 0; what < 9; what++) {
        due("told(" + gone + ", " + what + ")", x.told(gone, what), want[what]);
      }
      due("told(" + gone + ", -1)", x.told(gone, -1), STRANGE);
      due("told(" + gone + ", 9)", x.told(gone, 9), STRANGE);
    }
  }

  private static void aboutWhat() {
    says("Of a ROUTINE: 0 PARAMS .. 5 CALLS of it in all BODIES. BAD");
    CallMelt x = new CallMelt();
    x.routine(1);
    x.routine(0);
    int inner = x.call(0, x.number(1), 0, 0);
    int outer = x.call(0, inner, 0, 0);
    x.body(0, x.name(3));
    due("CALLS that are LOOSE", x.about(0, 5), 0);
    x.body(1, outer);
    int[] ofCalled = {1, x.about(0, 1), 1, 4, 0, 2};
    int[] ofCaller = {0, outer, 3, 0, 2, 0};
    for (int what = 0; what < 6; what++) {
      due("about(0, " + what + ")", x.about(0, what), ofCalled[what]);
      due("about(1, " + what + ")", x.about(1, what), ofCaller[what]);
    }
    int[] strange = {-1, 6, LEAST, MOST};
    for (int what : strange) {
      due("about(0, " + what + ")", x.about(0, what), BAD);
    }
    int[] none = {-1, 2, 9, 10, LEAST, MOST};
    for (int r : none) {
      for (int what = 0; what < 6; what++) {
        due("about(" + r + ", " + what + ")", x.about(r, what), BAD);
      }
    }
  }

  private static void callsInAllBodies() {
    says("4 CALLS in its BODY, 5 CALLS of it in all BODIES");
    CallMelt x = new CallMelt();
    for (int r = 0; r < 3; r++) {
      x.routine(0);
    }
    x.body(0, both(x, x.call(0, 0, 0, 0), x.call(1, 0, 0, 0)));
    x.body(1, x.call(1, 0, 0, 0));
    due("about(0, 4)", x.about(0, 4), 2);
    due("about(1, 4)", x.about(1, 4), 1);
    due("about(0, 5), by itself", x.about(0, 5), 1);
    due("about(1, 5), by two", x.about(1, 5), 2);
    due("about(2, 5), by none", x.about(2, 5), 0);
    x.body(1, -1);
    due("about(1, 4), MISSING", x.about(1, 4), 0);
    due("about(1, 5), of a MISSING one", x.about(1, 5), 1);
  }

  private static int alike(CallMelt x, int one, int two) {
    int got = x.same(one, two);
    due("the other way round", x.same(two, one), got);
    return got;
  }

  private static void alikeSteps() {
    says("1: two STEPS are alike: KINDS, numbers, PARTS alike in order; 0");
    for (int i = 0; i < TOLD.length; i++) {
      CallMelt x = withRoutine(3);
      int[] ones = {x.number(1), x.name(2), x.number(3)};
      int[] twos = {x.number(1), x.name(2), x.number(3)};
      int one = tell(x, TOLD[i], ones);
      int two = tell(x, TOLD[i], twos);
      due(of(TOLD[i]), alike(x, one, two), 1);
      due("itself", x.same(one, one), 1);
      for (int place = 0; place < PARTS[i]; place++) {
        CallMelt y = withRoutine(3);
        int[] threes = {y.number(1), y.name(2), y.number(3)};
        int[] others = {y.number(1), y.name(2), y.number(3)};
        others[place] = place == 1 ? y.name(1) : y.number(2);
        int three = tell(y, TOLD[i], threes);
        due(of(TOLD[i]) + ", another PART " + place, alike(y, three, tell(y, TOLD[i], others)), 0);
      }
    }
  }

  private static void unlikeSteps() {
    says("1: two STEPS are alike: KINDS, numbers, PARTS alike in order; 0");
    CallMelt x = new CallMelt();
    x.routine(0);
    x.routine(0);
    due("NUMBERS", alike(x, x.number(1), x.number(2)), 0);
    due("NAMES", alike(x, x.name(1), x.name(2)), 0);
    due("a NUMBER, a NAME", alike(x, x.number(1), x.name(1)), 0);
    due("op", alike(x, x.act(0, x.number(1), x.number(2)), x.act(1, x.number(1), x.number(2))), 0);
    due("SET k", alike(x, x.set(1, x.number(1)), x.set(2, x.number(1))), 0);
    due("CALL r", alike(x, x.call(0, 0, 0, 0), x.call(1, 0, 0, 0)), 0);
    due("LEAVE, REACH", alike(x, leave(x, x.number(1)), reach(x, x.number(1))), 0);
    due("order", alike(x, both(x, x.number(1), x.number(2)), both(x, x.number(2), x.number(1))), 0);
    int whole = leave(x, leave(x, x.number(1)));
    due("the whole, its PART", alike(x, whole, x.told(whole, 2)), 0);
    int left = both(x, both(x, x.number(1), x.number(1)), x.number(1));
    int right = both(x, x.number(1), both(x, x.number(1), x.number(1)));
    due("the shape", alike(x, left, right), 0);
    int body = x.number(5);
    x.body(0, body);
    due("a BODY, a LOOSE one", alike(x, body, x.number(5)), 1);
    int[] none = {-1, x.count(0), MOST_STEPS, LEAST, MOST};
    for (int step : none) {
      due("same(.., " + step + ")", x.same(body, step), BAD);
      due("same(" + step + ", ..)", x.same(step, body), BAD);
    }
  }
}
