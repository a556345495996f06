/** What the document says of the edges of RUNS, COST, FUEL and COUNTS; promises 13 to 17. */
public final class RunEdgesTest extends Tests {
  public static void main(String[] args) throws ReflectiveOperationException {
    runAll(RunEdgesTest.class);
  }

  /** ROUTINE 0, which is RUN in all that follows. */
  private static CallMelt withRoutine(int params) {
    CallMelt x = new CallMelt();
    x.routine(params);
    return x;
  }

  /** A CALL of a new ROUTINE without PARAMS; what it is MELTED to is a BLOCK of that STEP. */
  private static int callOf(CallMelt x, int step) {
    int r = x.routine(0);
    x.body(r, step);
    return x.call(r, 0, 0, 0);
  }

  private static void fine(CallMelt x, int fuel, int value, int took) {
    due("run(0, 0, 0, 0, " + fuel + ")", x.run(0, 0, 0, 0, fuel), 0);
    due("ran(0)", x.ran(0), value);
    due("ran(1)", x.ran(1), took);
    due("ran(3)", x.ran(3), NONE);
  }

  private static void refused(CallMelt x, int fuel, int why, int step, int took) {
    due("run(0, 0, 0, 0, " + fuel + ")", x.run(0, 0, 0, 0, fuel), why);
    due("ran(0)", x.ran(0), 0);
    due("ran(1)", x.ran(1), took);
    due("ran(3)", x.ran(3), step);
  }

  private static void value(String what, CallMelt x, int body, int value) {
    x.body(0, body);
    due(what + ", run", x.run(0, 0, 0, 0, 2000), 0);
    due(what + ", ran(0)", x.ran(0), value);
  }

  private static void count(CallMelt x, String what, int step, int want) {
    due("told(" + what + ", 7)", x.told(step, 7), want);
  }

  /** WHILE 1 is not 0: takes all FUEL that there is. */
  private static int endless(CallMelt x) {
    return loop(x, x.number(1), x.number(1));
  }

  // ---- THE ROW, NAMES

  private static void theRowAsItIsThen() {
    says("A RUN has THE ROW, 8 ints, as they are then");
    for (int i = 0; i < 8; i += 7) {
      CallMelt x = withRoutine(0);
      value("not laid", x, reach(x, x.number(i)), 0);
      due("lay()", x.lay(i, MOST), 1);
      value("laid", x, reach(x, x.number(i)), MOST);
      value("laid by a RUN", x, lays(x, x.number(i), x.number(LEAST)), LEAST);
      due("row()", x.row(i), LEAST);
      value("the next RUN", x, reach(x, x.number(i)), LEAST);
      for (int other = 0; other < 8; other++) {
        due("row(" + other + ")", x.row(other), other == i ? LEAST : 0);
      }
    }
  }

  private static void eightPlacesToReach() {
    says("PLACE (REACH, LAY: x is not 0 to 7)");
    int[] none = {-1, 8, LEAST, MOST};
    for (int i : none) {
      CallMelt x = withRoutine(0);
      int reach = reach(x, x.number(i));
      x.body(0, reach);
      refused(x, 9, PLACE, reach, 1);
      int lay = lays(x, x.number(i), x.number(5));
      x.body(0, lay);
      refused(x, 9, PLACE, lay, 1);
    }
    for (int i = 0; i < 8; i++) {
      CallMelt x = withRoutine(0);
      x.body(0, lays(x, x.number(i), x.number(50 + i)));
      fine(x, 9, 50 + i, 1);
      x.body(0, reach(x, x.number(i)));
      fine(x, 9, 50 + i, 1);
    }
  }

  private static void eightPlacesToAskFor() {
    says("Place i of THE ROW. BAD: 0; becomes v: 1. BAD");
    CallMelt x = new CallMelt();
    for (int i = 0; i < 8; i++) {
      due("lay(" + i + ", ..)", x.lay(i, i - 4), 1);
    }
    int[] none = {-1, 8, LEAST, MOST};
    for (int i : none) {
      due("lay(" + i + ", 9)", x.lay(i, 9), BAD);
      due("row(" + i + ")", x.row(i), 0);
    }
    for (int i = 0; i < 8; i++) {
      due("row(" + i + ")", x.row(i), i - 4);
    }
    due("lay(7, least)", x.lay(7, LEAST), 1);
    due("row(7)", x.row(7), LEAST);
  }

  private static void whatIsHandedOver() {
    says("NAMES of its own, ints: the first ones what is handed over, all others 0");
    int[] handed = {11, 22, 33};
    for (int params = 0; params <= 3; params++) {
      CallMelt x = withRoutine(params);
      for (int k = 0; k < 4; k++) {
        x.body(0, x.name(k));
        due("run()", x.run(0, 11, 22, 33, 0), 0);
        due("NAME " + k + " of " + params, x.ran(0), k < params ? handed[k] : 0);
      }
      x.body(0, x.name(39));
      x.run(0, 11, 22, 33, 0);
      due("NAME 39", x.ran(0), 0);
      int caller = x.routine(0);
      for (int k = 0; k < 4; k++) {
        x.body(caller, -1);
        x.body(0, x.name(k));
        x.body(caller, x.call(0, x.number(11), x.number(22), x.number(33)));
        due("run()", x.run(caller, 0, 0, 0, 99), 0);
        due("NAME " + k + " of a called one", x.ran(0), k < params ? handed[k] : 0);
      }
    }
  }

  private static void namesOfItsOwn() {
    says("A call of a ROUTINE has NAMES of its own");
    CallMelt x = withRoutine(1);
    int called = x.routine(0);
    x.body(called, x.set(39, x.act(SUM, x.name(39), x.number(1))));
    int twice = x.act(SUM, x.call(called, 0, 0, 0), x.call(called, 0, 0, 0));
    value("NAME 39 is 0 in each", x, twice, 2);
    x.body(called, x.set(0, x.number(7)));
    x.body(0, both(x, x.call(called, 0, 0, 0), x.name(0)));
    due("run()", x.run(0, 5, 0, 0, 99), 0);
    due("NAME 0 of the caller", x.ran(0), 5);
    x.body(0, both(x, x.set(3, x.number(8)), x.name(3)));
    value("NAME 3 that is SET", x, both(x, x.set(3, x.number(8)), x.name(3)), 8);
    value("NAME 3 in the next RUN", x, x.name(3), 0);
  }

  // ---- VALUES

  private static void sumsWrap() {
    says("VALUES are ints that wrap: 0 their sum, 1 difference, 2 product");
    due("the most and 0", ranAct(SUM, MOST, 0), MOST);
    due("the most and 1", ranAct(SUM, MOST, 1), LEAST);
    due("the least and 0", ranAct(SUM, LEAST, 0), LEAST);
    due("the least and -1", ranAct(SUM, LEAST, -1), MOST);
    due("the least twice", ranAct(SUM, LEAST, LEAST), 0);
    due("the least less 0", ranAct(DIFFERENCE, LEAST, 0), LEAST);
    due("the least less 1", ranAct(DIFFERENCE, LEAST, 1), MOST);
    due("the most less -1", ranAct(DIFFERENCE, MOST, -1), LEAST);
    due("0 less the most", ranAct(DIFFERENCE, 0, MOST), LEAST + 1);
    due("0 less the least", ranAct(DIFFERENCE, 0, LEAST), LEAST);
    due("46340 by itself", ranAct(PRODUCT, 46340, 46340), 2147395600);
    due("46341 by itself", ranAct(PRODUCT, 46341, 46341), -2147479015);
    due("65536 by itself", ranAct(PRODUCT, 65536, 65536), 0);
    due("65537 by itself", ranAct(PRODUCT, 65537, 65537), 131073);
    due("the most by 2", ranAct(PRODUCT, MOST, 2), -2);
    due("the least by -1", ranAct(PRODUCT, LEAST, -1), LEAST);
    due("the most by 0", ranAct(PRODUCT, MOST, 0), 0);
  }

  private static void quotientsAreCut() {
    says("3 quotient, cut toward 0 (the least by -1: the least)");
    due("7 by 2", ranAct(QUOTIENT, 7, 2), 3);
    due("-7 by 2", ranAct(QUOTIENT, -7, 2), -3);
    due("7 by -2", ranAct(QUOTIENT, 7, -2), -3);
    due("-7 by -2", ranAct(QUOTIENT, -7, -2), 3);
    due("8 by 2", ranAct(QUOTIENT, 8, 2), 4);
    due("-8 by 2", ranAct(QUOTIENT, -8, 2), -4);
    due("1 by 2", ranAct(QUOTIENT, 1, 2), 0);
    due("-1 by 2", ranAct(QUOTIENT, -1, 2), 0);
    due("0 by -5", ranAct(QUOTIENT, 0, -5), 0);
    due("the least by -1", ranAct(QUOTIENT, LEAST, -1), LEAST);
    due("the least by 1", ranAct(QUOTIENT, LEAST, 1), LEAST);
    due("the least by -2", ranAct(QUOTIENT, LEAST, -2), 1 << 30);
    due("one more by -1", ranAct(QUOTIENT, LEAST + 1, -1), MOST);
    due("the most by -1", ranAct(QUOTIENT, MOST, -1), LEAST + 1);
    due("the least by itself", ranAct(QUOTIENT, LEAST, LEAST), 1);
    due("the most by the least", ranAct(QUOTIENT, MOST, LEAST), 0);
    due("the least by the most", ranAct(QUOTIENT, LEAST, MOST), -1);
  }

  private static void below() {
    says("4 1 if x is below y, else 0, 5 1 if they are the same, else 0");
    int[] some = {LEAST, LEAST + 1, -1, 0, 1, MOST - 1, MOST};
    for (int i = 0; i < some.length; i++) {
      for (int j = 0; j < some.length; j++) {
        String what = some[i] + ", " + some[j];
        due("below: " + what, ranAct(BELOW, some[i], some[j]), i < j ? 1 : 0);
        due("the same: " + what, ranAct(ALIKE, some[i], some[j]), i == j ? 1 : 0);
      }
    }
  }

  private static void byNought() {
    says("REFUSED: 1 NOUGHT (ACT 3 by 0)");
    int[] some = {0, 1, LEAST, MOST};
    for (int v : some) {
      CallMelt x = withRoutine(0);
      int step = x.act(QUOTIENT, x.number(v), x.number(0));
      x.body(0, step);
      refused(x, 9, NOUGHT, step, 1);
      count(x, "step", step, 1);
    }
    for (int op = 0; op <= 5; op++) {
      if (op != QUOTIENT) {
        due("op " + op + " by 0", ranAct(op, 0, 0), op == ALIKE ? 1 : 0);
      }
    }
    due("ACT 3 by 1", ranAct(QUOTIENT, 0, 1), 0);
    due("ACT 3 by -1", ranAct(QUOTIENT, 0, -1), 0);
  }

  private static void xThenY() {
    says("ACT: x, then y, then by op. LAY: x, y, then place x. BOTH: x, then y: y's");
    CallMelt x = withRoutine(0);
    value("x SETS", x, x.act(DIFFERENCE, x.set(0, x.number(5)), x.name(0)), 0);
    value("y SETS", x, x.act(DIFFERENCE, x.name(0), x.set(0, x.number(5))), -5);
    value("LAY, x SETS", x, lays(x, x.set(0, x.number(3)), x.name(0)), 3);
    due("row(3)", x.row(3), 3);
    value("LAY, y lays", x, lays(x, x.number(2), lays(x, x.number(2), x.number(9))), 9);
    value("BOTH", x, both(x, x.set(0, x.number(5)), x.act(SUM, x.name(0), x.number(1))), 6);
    value("BOTH, y SETS", x, both(x, x.name(0), x.set(0, x.number(4))), 4);
  }

  private static void pickDoesOne() {
    says("PICK: t; x, if that is not 0, else y");
    int[] some = {LEAST, -1, 0, 1, 2, MOST};
    for (int t : some) {
      CallMelt x = withRoutine(0);
      int yes = x.set(0, x.number(10));
      int no = x.set(0, x.number(20));
      value("t is " + t, x, pick(x, x.number(t), yes, no), t == 0 ? 20 : 10);
      count(x, "x", yes, t == 0 ? 0 : 1);
      count(x, "y", no, t == 0 ? 1 : 0);
      due("ran(1)", x.ran(1), 2);
    }
  }

  private static void setIsItsValue() {
    says("SET: x; NAME k becomes it");
    for (int k = 0; k < 40; k += 39) {
      CallMelt x = withRoutine(0);
      value("SET", x, x.set(k, x.number(MOST)), MOST);
      value("NAME", x, both(x, x.set(k, x.number(LEAST)), x.name(k)), LEAST);
      value("x is first", x, x.set(k, x.act(SUM, x.set(k, x.number(2)), x.name(k))), 4);
      value("another NAME", x, both(x, x.set(k, x.number(5)), x.name(k == 0 ? 1 : 38)), 0);
    }
  }

  private static void partsOfCallsInOrder() {
    says("CALL: its PARTS in order, then the ROUTINE with them");
    CallMelt x = withRoutine(0);
    int r = x.routine(3);
    x.body(r, x.act(SUM, x.act(PRODUCT, x.name(0), x.number(100)),
        x.act(SUM, x.act(PRODUCT, x.name(1), x.number(10)), x.name(2))));
    int one = x.set(0, x.act(SUM, x.name(0), x.number(1)));
    int two = x.set(0, x.act(SUM, x.name(0), x.number(1)));
    int three = x.set(0, x.act(SUM, x.name(0), x.number(1)));
    value("CALL", x, x.call(r, one, two, three), 123);
  }

  private static void whileNotNought() {
    says("WHILE: t; as long as that is not 0: x, and t again; 0");
    CallMelt x = withRoutine(1);
    int t = x.name(0);
    int step = x.set(0, x.act(SUM, x.name(0), x.number(1)));
    int loop = loop(x, t, step);
    x.body(0, loop);
    for (int times = 0; times < 4; times++) {
      x.clearCounts();
      due("run()", x.run(0, -times, 0, 0, 99), 0);
      due("ran(0)", x.ran(0), 0);
      due("ran(1)", x.ran(1), 1 + 3 * times);
      count(x, "WHILE", loop, 1);
      count(x, "t", t, times + 1);
      count(x, "x", step, times);
    }
    due("the least", x.run(0, LEAST, 0, 0, 99), FUEL);
    value("0 as a PART", x, x.act(DIFFERENCE, loop(x, x.number(0), x.number(5)), x.number(7)), -7);
    int rounds = loop(x, x.name(1), x.set(1, x.number(0)));
    value("0 behind rounds", x, both(x, x.set(1, x.number(3)), x.act(SUM, rounds, x.number(7))), 7);
    value("0, and what is behind", x, both(x, loop(x, x.number(0), x.number(5)), x.number(7)), 7);
  }

  // ---- LEAVE, BLOCK

  private static void leaveEndsTheCall() {
    says("LEAVE: x; .. or else the call, is over with it");
    CallMelt x = withRoutine(0);
    value("the first call", x, x.act(SUM, x.number(10), leave(x, x.number(5))), 5);
    int call = callOf(x, x.act(SUM, x.number(10), leave(x, x.number(5))));
    value("another call", x, x.act(SUM, x.number(100), call), 105);
    value("in BOTH", x, both(x, leave(x, x.number(5)), x.number(6)), 5);
    value("of LEAVE", x, leave(x, leave(x, x.number(7))), 7);
    due("ran(1), of LEAVE", x.ran(1), 2);
    value("in t of WHILE", x, loop(x, leave(x, x.number(3)), x.number(1)), 3);
    value("in x of WHILE", x, loop(x, x.number(1), leave(x, x.number(4))), 4);
    value("in t of PICK", x, pick(x, leave(x, x.number(8)), x.number(1), x.number(2)), 8);
  }

  private static void leaveLeavesWhatIsNotDone() {
    says("LEAVE: x; .. is over with it");
    CallMelt x = withRoutine(0);
    value("in REACH", x, reach(x, leave(x, x.number(9))), 9);
    value("in LAY's x", x, lays(x, leave(x, x.number(9)), x.number(1)), 9);
    value("in LAY's y", x, lays(x, x.number(0), leave(x, x.number(6))), 6);
    due("row(0)", x.row(0), 0);
    value("in an ACT by 0", x, x.act(QUOTIENT, leave(x, x.number(2)), x.number(0)), 2);
    int inner = callOf(x, x.number(1));
    int outer = x.act(SUM, inner, leave(x, x.number(3)));
    value("behind a CALL", x, outer, 3);
    int gap = x.routine(1);
    int missing = x.call(gap, leave(x, x.number(4)), 0, 0);
    value("in a PART of a CALL, ahead of MISSING", x, missing, 4);
    count(x, "CALL", missing, 0);
    due("ran(1), its COST was not paid", x.ran(1), 1);
    // SET is over ahead of its NAME.
    CallMelt y = withRoutine(0);
    int left = callOf(y, leave(y, y.number(3)));
    y.body(0, both(y, y.set(0, y.number(1)), both(y, left, y.name(0))));
    y.melt(left);
    fine(y, 9, 1, 2);
  }

  private static void leaveEndsTheInnermostBlock() {
    says("the innermost BLOCK in which it stands (of this ROUTINE)");
    CallMelt x = withRoutine(0);
    int one = callOf(x, x.act(SUM, x.number(10), leave(x, x.number(5))));
    int two = callOf(x, x.act(SUM, x.number(100), one));
    x.body(0, x.act(SUM, x.number(1000), two));
    fine(x, 99, 1105, 3 + 1 + 8);
    x.melt(one);
    x.melt(two);
    fine(x, 99, 1105, 4);
    due("ran(2)", x.ran(2), 1);
    CallMelt y = withRoutine(0);
    int inner = callOf(y, leave(y, y.number(5)));
    int outer = callOf(y, y.act(SUM, inner, leave(y, y.number(7))));
    y.body(0, y.act(SUM, y.number(1000), outer));
    y.melt(inner);
    y.melt(outer);
    fine(y, 99, 1007, 4);
  }

  private static void blocksOfCallersStay() {
    says("the innermost BLOCK in which it stands (of this ROUTINE)");
    CallMelt x = withRoutine(0);
    int called = callOf(x, leave(x, x.number(5)));
    int block = callOf(x, x.act(SUM, x.number(10), called));
    x.body(0, x.act(SUM, x.number(100), block));
    x.melt(block);
    fine(x, 99, 115, 7);
    due("ran(2)", x.ran(2), 2);
    // A LEAVE in a PART of a CALL is the caller's.
    CallMelt y = withRoutine(0);
    int r = y.routine(1);
    y.body(r, y.number(1));
    int held = callOf(y, y.call(r, leave(y, y.number(5)), 0, 0));
    y.body(0, y.act(SUM, y.number(100), held));
    y.melt(held);
    fine(y, 99, 105, 2);
  }

  private static void blockIsWhatLeftIt() {
    says("BLOCK: x, or what LEFT it");
    CallMelt x = withRoutine(0);
    int plain = callOf(x, x.number(8));
    int left = callOf(x, both(x, leave(x, x.number(9)), x.number(1)));
    x.body(0, x.act(SUM, plain, left));
    due("melt()", x.told(x.melt(plain), 0), BLOCK);
    due("melt()", x.told(x.melt(left), 0), BLOCK);
    fine(x, 9, 17, 2);
    // Each round of a WHILE begins its BLOCK anew.
    CallMelt y = withRoutine(0);
    int round = callOf(y, leave(y, y.number(2)));
    int less = y.set(0, y.act(DIFFERENCE, y.name(0), y.number(1)));
    int loop = loop(y, y.name(0), both(y, round, less));
    y.body(0, both(y, y.set(0, y.number(3)), loop));
    int block = y.melt(round);
    fine(y, 99, 0, 1 + 4 + 3 * 3);
    count(y, "BLOCK", block, 3);
  }

  // ---- COST and FUEL

  /** A STEP of PARTS that cost nothing, told in ROUTINE 0's object, and a NAME for messages. */
  private static int ofKind(CallMelt x, int kind) {
    switch (kind) {
      case NUMBER:
        return x.number(3);
      case NAME:
        return x.name(3);
      case ACT:
        return x.act(SUM, x.number(1), x.number(2));
      case PICK:
        return pick(x, x.number(1), x.number(2), x.number(3));
      case SET:
        return x.set(3, x.number(1));
      case LAY:
        return lays(x, x.number(1), x.number(2));
      case WHILE:
        return loop(x, x.number(0), x.number(1));
      case BOTH:
        return both(x, x.number(1), x.number(2));
      default:
        return x.join(kind, 0, x.number(1), 0);
    }
  }

  private static void costNothing() {
    says("COST: of NUMBER, NAME, BOTH, BLOCK 0");
    for (int kind : new int[] {NUMBER, NAME, BOTH}) {
      CallMelt x = withRoutine(0);
      x.body(0, ofKind(x, kind));
      due("run, KIND " + kind, x.run(0, 0, 0, 0, 0), 0);
      due("ran(1)", x.ran(1), 0);
      count(x, "KIND " + kind, x.about(0, 1), 1);
    }
    CallMelt x = withRoutine(0);
    int call = callOf(x, x.number(6));
    x.body(0, call);
    int block = x.melt(call);
    fine(x, 0, 6, 0);
    count(x, "BLOCK", block, 1);
  }

  private static void costOne() {
    says("of all others 1 each time that they are done");
    for (int kind : new int[] {ACT, PICK, SET, LEAVE, WHILE, REACH, LAY}) {
      CallMelt x = withRoutine(0);
      int step = ofKind(x, kind);
      x.body(0, step);
      refused(x, 0, FUEL, step, 0);
      count(x, "KIND " + kind, step, 0);
      count(x, "PART", x.told(step, 2), 0);
      due("row(1)", x.row(1), 0);
      due("run, KIND " + kind, x.run(0, 0, 0, 0, 1), 0);
      due("ran(1)", x.ran(1), 1);
      due("run, FUEL to spare", x.run(0, 0, 0, 0, 2), 0);
      due("ran(1)", x.ran(1), 1);
      count(x, "KIND " + kind, step, 2);
    }
  }

  private static void costOfEachTest() {
    says("WHILE: each t");
    CallMelt x = withRoutine(0);
    int less = x.set(0, x.number(0));
    int loop = loop(x, x.name(0), less);
    x.body(0, both(x, x.set(0, x.number(1)), loop));
    fine(x, 4, 0, 4);
    count(x, "WHILE", loop, 1);
    count(x, "t", x.told(loop, 2), 2);
    refused(x, 3, FUEL, loop, 3);
    count(x, "WHILE, begun", loop, 2);
    count(x, "t, the second one not", x.told(loop, 2), 3);
    count(x, "x", less, 2);
    refused(x, 2, FUEL, less, 2);
    count(x, "WHILE, begun", loop, 3);
    count(x, "x, not begun", less, 2);
    refused(x, 1, FUEL, loop, 1);
    count(x, "WHILE, not begun", loop, 3);
  }

  private static void costOfCalls() {
    says("of a CALL 4, and 1 for each NAME that its ROUTINE USES");
    for (int params = 0; params <= 3; params++) {
      for (int names : new int[] {0, 1, 3, 4, 40}) {
        CallMelt x = withRoutine(0);
        int r = x.routine(params);
        x.body(r, names == 0 ? x.number(1) : x.name(names - 1));
        int call = x.call(r, x.number(7), x.number(8), x.number(9));
        x.body(0, call);
        int cost = 4 + Math.max(names, params);
        String what = params + " PARAMS, " + names + " NAMES";
        due(what, x.run(0, 0, 0, 0, cost), 0);
        due("ran(1)", x.ran(1), cost);
        count(x, "CALL", call, 1);
        refused(x, cost - 1, FUEL, call, 0);
        count(x, "CALL", call, 1);
        refused(x, 0, FUEL, call, 0);
        if (params > 0) {
          count(x, "its PART", x.told(call, 2), 3);
        }
      }
    }
  }

  private static void costIsPaidAhead() {
    says("COST is paid ahead of a STEP's PARTS, of a CALL behind them");
    CallMelt x = withRoutine(0);
    int inner = x.act(SUM, x.number(1), x.number(2));
    int outer = x.act(SUM, inner, x.number(3));
    x.body(0, outer);
    refused(x, 0, FUEL, outer, 0);
    refused(x, 1, FUEL, inner, 1);
    count(x, "the outer one", outer, 1);
    count(x, "the inner one", inner, 0);
    fine(x, 2, 6, 2);
    int r = x.routine(1);
    x.body(r, x.number(1));
    int part = x.set(0, x.number(2));
    int call = x.call(r, part, 0, 0);
    x.body(0, call);
    refused(x, 0, FUEL, part, 0);
    refused(x, 1, FUEL, call, 1);
    refused(x, 5, FUEL, call, 1);
    fine(x, 6, 1, 6);
    count(x, "its PART", part, 3);
    count(x, "CALL", call, 1);
  }

  private static void costAheadOfOthers() {
    says("Their order: COST is paid ahead of a STEP's PARTS");
    CallMelt x = withRoutine(0);
    int nought = x.act(QUOTIENT, x.number(1), x.number(0));
    x.body(0, nought);
    refused(x, 0, FUEL, nought, 0);
    refused(x, 1, NOUGHT, nought, 1);
    int place = reach(x, x.number(8));
    x.body(0, place);
    refused(x, 0, FUEL, place, 0);
    refused(x, 1, PLACE, place, 1);
    // What its PARTS are REFUSED by is ahead of its own.
    int part = x.set(0, x.number(1));
    int step = lays(x, x.number(8), part);
    x.body(0, step);
    refused(x, 1, FUEL, part, 1);
    refused(x, 2, PLACE, step, 2);
    int by = x.act(QUOTIENT, x.number(1), x.set(0, x.number(0)));
    x.body(0, by);
    refused(x, 1, FUEL, x.told(by, 3), 1);
    refused(x, 2, NOUGHT, by, 2);
  }

  private static void missingThenFuelThenDeep() {
    says("then MISSING, then FUEL, then DEEP");
    CallMelt x = withRoutine(1);
    int gap = x.routine(1);
    int part = x.set(1, x.number(1));
    int missing = x.call(gap, part, 0, 0);
    x.body(0, missing);
    refused(x, 0, FUEL, part, 0);
    refused(x, 1, MISSING, missing, 1);
    count(x, "CALL", missing, 0);
    // At the bottom of 12 calls: each one above costs a PICK, an ACT and a CALL with 1 NAME.
    CallMelt y = withRoutine(1);
    int none = y.routine(0);
    int end = y.call(none, 0, 0, 0);
    int again = y.call(0, y.act(DIFFERENCE, y.name(0), y.number(1)), 0, 0);
    y.body(0, pick(y, y.name(0), again, end));
    due("MISSING ahead of DEEP", y.run(0, 11, 0, 0, 78), MISSING);
    due("ran(1)", y.ran(1), 78);
    due("ran(2)", y.ran(2), 12);
    due("ran(3)", y.ran(3), end);
    y.clearCounts();
    due("FUEL ahead of DEEP", y.run(0, 12, 0, 0, 83), FUEL);
    due("ran(1)", y.ran(1), 79);
    due("ran(3)", y.ran(3), again);
    count(y, "CALL", again, 11);
    due("DEEP", y.run(0, 12, 0, 0, 84), DEEP);
    due("ran(1), its COST was paid", y.ran(1), 84);
    due("ran(2)", y.ran(2), 12);
    due("ran(3)", y.ran(3), again);
    count(y, "CALL", again, 23);
  }

  private static void twelveCallsAreOpen() {
    says("5 DEEP (a 13th call that is open; the first one counts)");
    CallMelt x = withRoutine(1);
    int again = x.call(0, x.act(DIFFERENCE, x.name(0), x.number(1)), 0, 0);
    x.body(0, pick(x, x.name(0), again, x.number(5)));
    for (int a = 0; a < 12; a++) {
      due("run(0, " + a + ", ..)", x.run(0, a, 0, 0, 200), 0);
      due("ran(0)", x.ran(0), 5);
      due("ran(2)", x.ran(2), a + 1);
    }
    due("run(0, 12, ..)", x.run(0, 12, 0, 0, 200), DEEP);
    due("ran(2)", x.ran(2), 12);
    due("run(0, 13, ..)", x.run(0, 13, 0, 0, 200), DEEP);
    due("run(0, 0, ..)", x.run(0, 0, 0, 0, 200), 0);
    due("ran(2)", x.ran(2), 1);
  }

  private static void callsThatAreOverAreNotOpen() {
    says("a 13th call that is open");
    for (int how = 0; how < 2; how++) {
      CallMelt x = withRoutine(0);
      int r = x.routine(0);
      x.body(r, how == 0 ? x.number(1) : both(x, x.number(2), leave(x, x.number(1))));
      int all = x.call(r, 0, 0, 0);
      for (int i = 1; i < 14; i++) {
        all = x.act(SUM, x.call(r, 0, 0, 0), all);
      }
      value("14 calls, one behind the other", x, all, 14);
      due("ran(2)", x.ran(2), 2);
      int deep = x.number(1);
      int called = x.routine(1);
      x.body(called, x.name(0));
      for (int i = 0; i < 14; i++) {
        deep = x.call(called, deep, 0, 0);
      }
      value("14 calls, one in a PART of the other", x, deep, 1);
      due("ran(2)", x.ran(2), 2);
    }
  }

  private static void twelveCallsAreOpenFortyHigh() {
    says("A STEP is .. 40 at most; a 13th call that is open");
    CallMelt x = withRoutine(0);
    int again = x.call(0, 0, 0, 0);
    int all = again;
    for (int level = 1; level < 40; level++) {
      all = both(x, x.number(level), all);
    }
    x.body(0, all);
    refused(x, 2000, DEEP, again, 48);
    due("ran(2)", x.ran(2), 12);
    count(x, "the CALL", again, 12);
    count(x, "the outermost", all, 12);
    refused(x, 47, FUEL, again, 44);
    // 12 calls that come to an end, each with 37 STEPS around.
    CallMelt y = withRoutine(1);
    int next = y.call(0, y.act(DIFFERENCE, y.name(0), y.number(1)), 0, 0);
    int sum = pick(y, y.name(0), next, y.number(0));
    for (int level = 4; level < 40; level++) {
      sum = y.act(SUM, y.number(1), sum);
    }
    y.body(0, sum);
    due("run()", y.run(0, 11, 0, 0, 2000), 0);
    due("ran(0)", y.ran(0), 36 * 12);
    due("ran(2)", y.ran(2), 12);
  }

  private static void missingRoutines() {
    says("3 MISSING (a CALL of a ROUTINE without BODY, when its PARTS are done)");
    CallMelt x = withRoutine(0);
    int gap = x.routine(2);
    int one = x.set(0, x.number(1));
    int two = lays(x, x.number(4), x.number(2));
    int call = x.call(gap, one, two, 0);
    x.body(0, call);
    refused(x, 9, MISSING, call, 2);
    due("row(4)", x.row(4), 2);
    count(x, "PART 0", one, 1);
    count(x, "PART 1", two, 1);
    count(x, "CALL", call, 0);
    x.body(gap, x.number(3));
    fine(x, 9, 3, 2 + 6);
    x.body(gap, -1);
    refused(x, 9, MISSING, call, 2);
  }

  private static void missingFirst() {
    says("A MISSING one: 3; the first call costs nothing");
    CallMelt x = withRoutine(3);
    due("ran(3) before one", x.ran(3), 0);
    refused(x, 0, MISSING, NONE, 0);
    refused(x, 2000, MISSING, NONE, 0);
    due("ran(2)", x.ran(2), 0);
    x.body(0, x.name(39));
    fine(x, 0, 0, 0);
    due("ran(2)", x.ran(2), 1);
  }

  private static void whatWasLaidStays() {
    says("The RUN is over then; what was laid stays");
    CallMelt x = withRoutine(0);
    int first = lays(x, x.number(1), x.number(11));
    int last = lays(x, x.number(2), x.number(22));
    int nought = x.act(QUOTIENT, x.number(1), x.number(0));
    x.body(0, both(x, first, both(x, nought, last)));
    refused(x, 9, NOUGHT, nought, 2);
    due("row(1)", x.row(1), 11);
    due("row(2)", x.row(2), 0);
    count(x, "what stands behind", last, 0);
    x.lay(1, 0);
    refused(x, 1, FUEL, nought, 1);
    due("row(1)", x.row(1), 11);
  }

  private static void fuelOfOneRun() {
    says("with FUEL (0 to 2000)");
    CallMelt x = withRoutine(0);
    int loop = endless(x);
    x.body(0, loop);
    int[] bad = {-1, 2001, LEAST, MOST};
    for (int fuel : bad) {
      due("run(.., " + fuel + ")", x.run(0, 0, 0, 0, fuel), BAD);
      due("ran(1)", x.ran(1), 0);
      due("ran(3), none before", x.ran(3), 0);
    }
    count(x, "WHILE", loop, 0);
    refused(x, 0, FUEL, loop, 0);
    refused(x, 1, FUEL, loop, 1);
    refused(x, 1999, FUEL, loop, 1999);
    refused(x, 2000, FUEL, loop, 2000);
    due("ran(1) behind a BAD one", x.run(0, 0, 0, 0, 2001) + x.ran(1), BAD + 2000);
  }

  /** BOTH of BOTH .., all of which cost nothing. */
  private static int free(CallMelt x, int high) {
    return high == 1 ? x.number(1) : both(x, free(x, high - 1), free(x, high - 1));
  }

  private static void manyStepsThatCostNothing() {
    says("A RUN has FUEL: a STEP whose COST would be more than what is left is not done");
    CallMelt x = withRoutine(0);
    int free = free(x, 8);
    int loop = loop(x, x.number(1), free);
    x.body(0, both(x, loop, x.number(5)));
    due("SIZE", x.about(0, 2), 255 + 4);
    refused(x, 2000, FUEL, loop, 2000);
    count(x, "t", x.told(loop, 2), 2000);
    count(x, "x", free, 2000);
    count(x, "the last of x", free - 1, 2000);
  }

  private static void noSuchRoutine() {
    says("A ROUTINE is RUN. BAD");
    CallMelt x = new CallMelt();
    due("run(0, ..)", x.run(0, 0, 0, 0, 0), BAD);
    x.routine(0);
    x.body(0, x.number(1));
    int[] none = {-1, 1, 9, 10, LEAST, MOST};
    for (int r : none) {
      due("run(" + r + ", ..)", x.run(r, 0, 0, 0, 5), BAD);
    }
    due("ran(2)", x.ran(2), 0);
    due("run(0, ..)", x.run(0, 0, 0, 0, 0), 0);
    due("ran(2)", x.ran(2), 1);
  }

  private static CallMelt thatTook(int fuel) {
    CallMelt x = withRoutine(0);
    x.routine(0);
    x.body(0, endless(x));
    for (int left = fuel; left > 0; left -= 2000) {
      due("run()", x.run(0, 0, 0, 0, Math.min(left, 2000)), FUEL);
    }
    return x;
  }

  private static void fuelOfAllRuns() {
    says("FULL: all RUNS together took 60000 FUEL, or more");
    CallMelt x = thatTook(59999);
    due("at 59999", x.run(0, 0, 0, 0, 1), FUEL);
    due("at 60000", x.run(0, 0, 0, 0, 0), FULL);
    due("at 60000", x.run(0, 0, 0, 0, 2000), FULL);
    due("at 60000, a MISSING one", x.run(1, 0, 0, 0, 0), FULL);
    due("at 60000, BAD", x.run(2, 0, 0, 0, 0), BAD);
    due("at 60000, BAD", x.run(0, 0, 0, 0, 2001), BAD);
    due("at 60000, BAD", x.run(0, 0, 0, 0, -1), BAD);
    due("ran(1) of the latest one", x.ran(1), 1);
    count(x, "WHILE", x.about(0, 1), 31);
    x.clearCounts();
    x.undo();
    x.undo();
    x.body(0, x.number(1));
    due("at 60000, another BODY", x.run(0, 0, 0, 0, 0), FULL);
    CallMelt y = thatTook(59999);
    due("at 59999", y.run(0, 0, 0, 0, 2000), FUEL);
    due("ran(1)", y.ran(1), 2000);
    due("at 61999", y.run(0, 0, 0, 0, 1), FULL);
    CallMelt z = thatTook(59999);
    due("what takes none", z.run(1, 0, 0, 0, 2000), MISSING);
    due("what takes none", z.run(0, 0, 0, 0, 0), FUEL);
    due("at 59999 yet", z.run(0, 0, 0, 0, 1), FUEL);
    due("at 60000", z.run(0, 0, 0, 0, 1), FULL);
  }

  // ---- COUNTS, ran()

  private static void begunInRuns() {
    says("of each STEP how often it was begun in RUNS since clearCounts()");
    CallMelt x = withRoutine(1);
    int t = x.name(0);
    int yes = x.number(1);
    int no = x.number(2);
    int step = pick(x, t, yes, no);
    x.body(0, step);
    count(x, "PICK, no RUN yet", step, 0);
    x.run(0, 1, 0, 0, 9);
    x.run(0, 1, 0, 0, 9);
    x.run(0, 0, 0, 0, 9);
    int[] want = {3, 2, 1, 3};
    for (int i = 0; i < 4; i++) {
      count(x, "STEP " + i, i, want[i]);
    }
    x.run(0, 1, 0, 0, 0);
    x.run(0, 1, 0, 0, -1);
    x.run(1, 1, 0, 0, 9);
    for (int i = 0; i < 4; i++) {
      count(x, "STEP " + i + ", refused since", i, want[i]);
    }
    x.body(0, -1);
    count(x, "a LOOSE one", step, 3);
    due("clearCounts()", x.clearCounts(), 0);
    for (int i = 0; i < 4; i++) {
      count(x, "STEP " + i + ", cleared", i, 0);
    }
    due("clearCounts() again", x.clearCounts(), 0);
    x.undo();
    x.run(0, 1, 0, 0, 9);
    count(x, "PICK, since clearCounts()", step, 1);
  }

  private static void refusedRunsCount() {
    says("What FUEL refuses is not begun; REFUSED RUNS count, too");
    CallMelt x = withRoutine(0);
    int zero = x.number(0);
    int by = x.act(QUOTIENT, x.number(1), zero);
    int behind = x.number(4);
    int all = both(x, by, behind);
    x.body(0, all);
    refused(x, 0, FUEL, by, 0);
    count(x, "BOTH", all, 1);
    count(x, "ACT, FUEL", by, 0);
    count(x, "its PART", zero, 0);
    refused(x, 1, NOUGHT, by, 1);
    count(x, "BOTH", all, 2);
    count(x, "ACT, NOUGHT", by, 1);
    count(x, "its PART", zero, 1);
    count(x, "what stands behind", behind, 0);
    int place = reach(x, x.number(8));
    x.body(0, place);
    refused(x, 9, PLACE, place, 1);
    count(x, "REACH, PLACE", place, 1);
  }

  private static void ranBeforeOne() {
    says("Of the latest run(): .. 0 before one. BAD answers -1000000000");
    CallMelt x = withRoutine(0);
    for (int i = 0; i < 2; i++) {
      for (int what = 0; what < 4; what++) {
        due("ran(" + what + ")", x.ran(what), 0);
      }
      int[] bad = {-1, 4, LEAST, MOST};
      for (int what : bad) {
        due("ran(" + what + ")", x.ran(what), STRANGE);
      }
      due("run(), BAD", x.run(1, 0, 0, 0, 0), BAD);
    }
    x.body(0, x.number(STRANGE));
    due("run()", x.run(0, 0, 0, 0, 0), 0);
    int[] want = {STRANGE, 0, 1, NONE};
    for (int what = 0; what < 4; what++) {
      due("ran(" + what + ")", x.ran(what), want[what]);
    }
    due("ran(4)", x.ran(4), STRANGE);
    due("ran(-1)", x.ran(-1), STRANGE);
  }

  private static void mostCallsThatWereOpen() {
    says("2 the most calls that were open");
    CallMelt x = withRoutine(0);
    int one = callOf(x, x.number(1));
    int two = callOf(x, one);
    int last = callOf(x, x.number(2));
    x.body(0, both(x, two, last));
    fine(x, 99, 2, 12);
    due("ran(2)", x.ran(2), 3);
    refused(x, 7, FUEL, one, 4);
    due("ran(2), REFUSED", x.ran(2), 2);
    refused(x, 3, FUEL, two, 0);
    due("ran(2), REFUSED", x.ran(2), 1);
  }
}
