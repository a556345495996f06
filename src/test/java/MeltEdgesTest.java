/** What the document says of the edges of MELTING, GAIN and WEIGHT; promises 18 to 20. */
public final class MeltEdgesTest extends Tests {
  public static void main(String[] args) throws ReflectiveOperationException {
    runAll(MeltEdgesTest.class);
  }

  /** ROUTINE 0 with so many PARAMS, and ROUTINE 1 with PARAMS and BODY, which 0 is to call. */
  private static CallMelt withCalled(int paramsOfCaller, int params, String body) {
    CallMelt x = new CallMelt();
    x.routine(paramsOfCaller);
    x.routine(params);
    x.body(1, Teller.tell(x, body));
    return x;
  }

  /** The first CALL of ROUTINE 1 in the BODY of ROUTINE 0. */
  private static int callIn(CallMelt x) {
    for (int step = 0; step < x.count(0); step++) {
      if (x.told(step, 0) == CALL && x.told(step, 1) == 1 && x.told(step, 6) == 0) {
        return step;
      }
    }
    return NONE;
  }

  /** ROUTINE 0's BODY behind MELTING its CALL of ROUTINE 1, and what WEIGHT told ahead. */
  private static void melted(CallMelt x, String body, String want) {
    x.body(0, Teller.tell(x, body));
    int call = callIn(x);
    int made = x.count(0);
    int size = x.about(0, 2);
    int weight = x.weight(call);
    due("melt(), " + body, x.melt(call), made);
    due("the BODY, " + body, showBody(x, 0), want);
    due("weight()", weight, x.about(0, 2) - size);
    due("count(0)", x.count(0), made + weight + 1);
    due("told(call, 0)", x.told(call, 0), GONE);
  }

  /** A melting that is refused, and changes nothing. */
  private static void full(CallMelt x, int call) {
    int steps = Math.min(x.count(0), 12);
    String before = state(x, steps);
    int[] counts = {x.count(0), x.count(1), x.count(2), x.count(3), x.count(4), x.count(5)};
    due("melt()", x.melt(call), FULL);
    due("the state", state(x, steps), before);
    for (int what = 0; what < 6; what++) {
      due("count(" + what + ")", x.count(what), counts[what]);
    }
  }

  private static String repeat(String text, int times) {
    return text.repeat(Math.max(0, times));
  }

  /** LEAVE of LEAVE of .. something, so many more HIGH. */
  private static String under(int levels, String text) {
    return repeat("leave[", levels) + text + repeat("]", levels);
  }

  // ---- MELTING

  private static void partsAreSet() {
    says("BOTH of SET n, PART 0, and what is left, ..; then BLOCK of r's BODY");
    melted(withCalled(0, 0, "6"), "call1", "block[6]");
    melted(withCalled(0, 1, "6"), "call1[7]", "both[set0[7] block[6]]");
    melted(withCalled(0, 2, "6"), "call1[7 8]", "both[set0[7] both[set1[8] block[6]]]");
    melted(withCalled(0, 3, "6"), "call1[7 8 9]",
        "both[set0[7] both[set1[8] both[set2[9] block[6]]]]");
    melted(withCalled(0, 3, "act0[n0 n2]"), "call1[7 8 9]",
        "both[set0[7] both[set1[8] both[set2[9] block[act0[n0 n2]]]]]");
  }

  private static void othersAreSetToNought() {
    says("then for each NAME k that r USES behind its PARAMS BOTH of SET n + k, NUMBER 0");
    melted(withCalled(0, 0, "n0"), "call1", "both[set0[0] block[n0]]");
    melted(withCalled(0, 0, "set0[1]"), "call1", "both[set0[0] block[set0[1]]]");
    melted(withCalled(0, 0, "n2"), "call1",
        "both[set0[0] both[set1[0] both[set2[0] block[n2]]]]");
    melted(withCalled(0, 1, "n0"), "call1[7]", "both[set0[7] block[n0]]");
    melted(withCalled(0, 1, "n1"), "call1[7]", "both[set0[7] both[set1[0] block[n1]]]");
    melted(withCalled(0, 3, "n2"), "call1[7 8 9]",
        "both[set0[7] both[set1[8] both[set2[9] block[n2]]]]");
    melted(withCalled(0, 3, "n3"), "call1[7 8 9]",
        "both[set0[7] both[set1[8] both[set2[9] both[set3[0] block[n3]]]]]");
  }

  private static void namesOfItsOwn() {
    says("with NAMES n + k for k; n is how many the ROUTINE in whose BODY the CALL stands USES");
    melted(withCalled(0, 1, "act0[n0 6]"), "call1[7]", "both[set0[7] block[act0[n0 6]]]");
    melted(withCalled(1, 1, "n0"), "call1[n0]", "both[set1[n0] block[n1]]");
    melted(withCalled(3, 1, "n0"), "call1[7]", "both[set3[7] block[n3]]");
    melted(withCalled(3, 1, "n0"), "call1[n3]", "both[set4[n3] block[n4]]");
    melted(withCalled(0, 1, "n0"), "both[n5 call1[7]]", "both[n5 both[set6[7] block[n6]]]");
    melted(withCalled(0, 1, "n0"), "both[set5[1] call1[7]]",
        "both[set5[1] both[set6[7] block[n6]]]");
    melted(withCalled(0, 1, "n0"), "call1[n9]", "both[set10[n9] block[n10]]");
    melted(withCalled(0, 2, "set1[act1[n0 n2]]"), "call1[n1 set0[7]]",
        "both[set2[n1] both[set3[set0[7]] both[set4[0] block[set3[act1[n2 n4]]]]]]");
    melted(withCalled(2, 0, "6"), "call1", "block[6]");
  }

  private static void allKindsAreWrittenOff() {
    says("BLOCK of r's BODY, written off");
    CallMelt x = withCalled(0, 0, "both[pick[1 2 3] both[while[4 leave[5]] lay[reach[6] act3[7 8]]]]");
    melted(x, "call1", "block[both[pick[1 2 3] both[while[4 leave[5]] lay[reach[6] act3[7 8]]]]]");
    due("the BODY of 1", showBody(x, 1),
        "both[pick[1 2 3] both[while[4 leave[5]] lay[reach[6] act3[7 8]]]]");
    due("same()", x.same(x.told(x.about(0, 1), 2), x.about(1, 1)), 1);
    CallMelt y = new CallMelt();
    y.routine(0);
    y.routine(0);
    Teller.body(y, 1, "act0[block[leave[1]] 2]");
    y.routine(0);
    melted(y, "call1", "block[act0[block[leave[1]] 2]]");
  }

  private static void newStepsFromTheOutermostOn() {
    says("New STEPS come from the outermost on, each ahead of its PARTS, the first PART whole ahead");
    CallMelt x = withCalled(0, 2, "act0[act1[n0 n1] set2[3]]");
    x.body(0, Teller.tell(x, "lay[5 call1[act0[6 7] 8]]"));
    // 0 .. 5 are the BODY of 1; 6 is 5; 7, 8, 9 are PART 0; 10 is PART 1; 11 the CALL, 12 LAY.
    due("the order", order(x, x.about(0, 1)), "12 6 11 9 7 8 10");
    due("melt()", x.melt(11), 13);
    due("the order", order(x, x.about(0, 1)), "12 6 13 14 9 7 8 15 16 10 17 18 19 20 21 22 23 24 25 26");
    due("the BODY", showBody(x, 0), "lay[5 both[set0[act0[6 7]] both[set1[8] both[set2[0]"
        + " block[act0[act1[n0 n1] set2[3]]]]]]]");
  }

  private static void inItsPlace() {
    says("MELTING a CALL of r with a BODY: in its place");
    melted(withCalled(0, 0, "6"), "pick[call1 2 3]", "pick[block[6] 2 3]");
    melted(withCalled(0, 0, "6"), "pick[1 call1 3]", "pick[1 block[6] 3]");
    melted(withCalled(0, 0, "6"), "pick[1 2 call1]", "pick[1 2 block[6]]");
    melted(withCalled(0, 0, "6"), "set0[call1]", "set0[block[6]]");
    CallMelt x = withCalled(0, 1, "n0");
    int inner = x.call(1, x.number(7), 0, 0);
    int outer = x.call(1, inner, 0, 0);
    x.body(0, outer);
    int first = x.melt(inner);
    due("told(first, 5)", x.told(first, 5), outer);
    due("the BODY", showBody(x, 0), "call1[both[set0[7] block[n0]]]");
    int second = x.melt(outer);
    due("about(0, 1)", x.about(0, 1), second);
    due("told(second, 5)", x.told(second, 5), NONE);
    due("told(second, 6)", x.told(second, 6), 0);
    due("told(first, 5)", x.told(x.told(first, 5), 0), SET);
    due("the BODY", showBody(x, 0), "both[set1[both[set0[7] block[n0]]] block[n1]]");
  }

  private static void partsStay() {
    says("the CALL's PARTS stay the STEPS that they are");
    CallMelt x = withCalled(0, 3, "n0");
    int[] parts = {Teller.tell(x, "set0[1]"), Teller.tell(x, "2"), Teller.tell(x, "n3")};
    int call = x.call(1, parts[0], parts[1], parts[2]);
    x.body(0, call);
    x.run(0, 0, 0, 0, 99);
    x.run(0, 0, 0, 0, 0);
    int step = x.melt(call);
    for (int part : parts) {
      due("told(step, 0)", x.told(step, 0), BOTH);
      due("told(.., 2)", x.told(x.told(step, 2), 2), part);
      due("told(part, 5)", x.told(part, 5), x.told(step, 2));
      due("told(part, 6)", x.told(part, 6), 0);
      due("told(part, 7)", x.told(part, 7), 1);
      due("told(SET, 7)", x.told(x.told(step, 2), 7), 0);
      due("told(BOTH, 7)", x.told(step, 7), 0);
      step = x.told(step, 3);
    }
    due("told(BLOCK, 0)", x.told(step, 0), BLOCK);
    due("told(BLOCK, 7)", x.told(step, 7), 0);
  }

  private static void theCallIsGone() {
    says("the CALL is LOOSE then, without PARTS, and is GONE");
    CallMelt x = withCalled(0, 1, "n0");
    int call = x.call(1, x.number(7), 0, 0);
    x.body(0, call);
    x.run(0, 0, 0, 0, 99);
    int loose = x.count(2);
    x.melt(call);
    int[] want = {GONE, 0, NONE, NONE, NONE, NONE, NONE, 0, 0};
    for (int what = 0; what < 9; what++) {
      due("told(call, " + what + ")", x.told(call, what), want[what]);
    }
    due("count(1)", x.count(1), 1);
    due("count(2)", x.count(2), loose);
    due("melt()", x.melt(call), BAD);
    due("gain()", x.gain(call), BAD);
    due("weight()", x.weight(call), BAD);
    due("body()", x.body(1, call), BAD);
    due("set()", x.set(0, call), BAD);
  }

  private static void callsAreWrittenOffAsCalls() {
    says("What r's BODY calls is written off as CALLS");
    CallMelt x = new CallMelt();
    x.routine(0);
    x.routine(1);
    x.routine(2);
    x.body(1, Teller.tell(x, "call2[n0 call0]"));
    melted(x, "both[n1 call1[7]]", "both[n1 both[set2[7] block[call2[n2 call0]]]]");
    due("CALLS of 2, which is MISSING", x.about(2, 5), 2);
    due("CALLS in 0", x.about(0, 4), 2);
    due("CALLS in 1", x.about(1, 4), 2);
    due("the BODY of 1", showBody(x, 1), "call2[n0 call0]");
  }

  private static void ofItself() {
    says("r's BODY, written off");
    CallMelt x = new CallMelt();
    x.routine(1);
    x.body(0, Teller.tell(x, "pick[n0 call0[act1[n0 1]] 5]"));
    int call = x.told(x.about(0, 1), 3);
    due("weight()", x.weight(call), 2 + 7);
    due("melt()", x.melt(call), 7);
    due("the BODY", showBody(x, 0),
        "pick[n0 both[set1[act1[n0 1]] block[pick[n1 call0[act1[n1 1]] 5]]] 5]");
    due("about(0, 2)", x.about(0, 2), 7 + 9);
    due("about(0, 5)", x.about(0, 5), 1);
    CallMelt y = new CallMelt();
    y.routine(0);
    y.body(0, y.call(0, 0, 0, 0));
    due("weight() of the BODY itself", y.weight(0), 1);
    due("melt() of the BODY itself", y.melt(0), 1);
    due("the BODY", showBody(y, 0), "block[call0]");
    due("melt() of its twin", y.melt(2), 3);
    due("the BODY", showBody(y, 0), "block[block[block[call0]]]");
    due("weight() of the next one", y.weight(5), 4);
  }

  // ---- what is refused

  private static void noCallInABody() {
    says("BAD: it is no CALL in a BODY");
    CallMelt x = withCalled(0, 0, "6");
    int call = x.call(1, 0, 0, 0);
    int part = x.call(1, 0, 0, 0);
    int tree = x.set(0, part);
    int[] bad = {-1, 0, call, part, tree, x.count(0), MOST_STEPS, LEAST, MOST};
    for (int step : bad) {
      due("melt(" + step + ")", x.melt(step), BAD);
      due("gain(" + step + ")", x.gain(step), BAD);
      due("weight(" + step + ")", x.weight(step), BAD);
    }
    x.body(0, tree);
    due("gain(part), in a BODY", x.gain(part), 0);
    due("weight(part), in a BODY", x.weight(part), 1);
    due("melt(tree), in a BODY", x.melt(tree), BAD);
    x.body(0, -1);
    due("gain(part), LOOSE", x.gain(part), BAD);
    due("weight(part), LOOSE", x.weight(part), BAD);
    due("melt(part), LOOSE", x.melt(part), BAD);
    x.undo();
    due("melt(part), in a BODY", x.melt(part), x.count(0) - 2);
  }

  private static void itsRoutineIsMissing() {
    says("NO: its ROUTINE is MISSING");
    CallMelt x = new CallMelt();
    x.routine(0);
    x.routine(0);
    int loose = x.call(1, 0, 0, 0);
    int call = x.call(1, 0, 0, 0);
    int six = x.number(6);
    x.body(0, call);
    due("melt()", x.melt(call), NO);
    due("weight()", x.weight(call), NO);
    due("gain()", x.gain(call), 0);
    due("melt() of a LOOSE one", x.melt(loose), BAD);
    due("weight() of a LOOSE one", x.weight(loose), BAD);
    due("count(5)", x.count(5), 1);
    x.body(1, six);
    due("weight(), with a BODY", x.weight(call), 1);
    x.undo();
    due("weight(), MISSING", x.weight(call), NO);
    x.body(1, six);
    due("melt(), with a BODY", x.melt(call), 3);
    CallMelt y = new CallMelt();
    y.routine(0);
    y.routine(0);
    y.body(0, y.call(1, 0, 0, 0));
    fill(y, MOST_STEPS);
    due("melt(), MISSING, 600 STEPS", y.melt(0), NO);
    due("melt() of none, 600 STEPS", y.melt(1), BAD);
  }

  private static void sixHundredSteps() {
    says("FULL: 600 STEPS");
    String[] bodies = {"6", "n0", "n1", "act0[n0 act0[n1 4]]"};
    for (int params = 0; params <= 3; params++) {
      for (String body : bodies) {
        CallMelt x = withCalled(0, params, body);
        String parts = new String[] {"", "[7]", "[7 8]", "[7 8 9]"}[params];
        x.body(0, Teller.tell(x, "call1" + parts));
        int call = callIn(x);
        int more = x.weight(call) + 1;
        fill(x, MOST_STEPS - more);
        int made = x.count(0);
        due("melt() to 600, " + more + " more", x.melt(call), made);
        due("count(0)", x.count(0), MOST_STEPS);
        due("number()", x.number(0), FULL);
        for (int steps : new int[] {MOST_STEPS - more + 1, MOST_STEPS}) {
          CallMelt y = withCalled(0, params, body);
          y.body(0, Teller.tell(y, "call1" + parts));
          fill(y, steps);
          full(y, callIn(y));
        }
      }
    }
  }

  private static void stepsThatAreGoneCount() {
    says("STEPS that came with it are GONE, and stay counted; FULL: 600 STEPS");
    CallMelt x = withCalled(0, 0, under(29, "1"));
    int call = x.call(1, 0, 0, 0);
    x.body(0, call);
    int made = x.count(0);
    for (; made + 31 <= MOST_STEPS; made += 31) {
      due("melt()", x.melt(call), made);
      due("undo()", x.undo(), 1);
      due("count(0)", x.count(0), made + 31);
    }
    full(x, call);
    due("weight()", x.weight(call), 30);
    due("count(1)", x.count(1), made - 31);
  }

  private static void fortyNames() {
    says("FULL: 40 NAMES");
    int[][] most = {{39, 1}, {38, 2}, {37, 3}, {20, 20}, {3, 37}};
    for (int[] each : most) {
      for (int over = 0; over < 2; over++) {
        int n = each[0] + over;
        CallMelt x = withCalled(0, 0, "n" + (each[1] - 1));
        x.body(0, Teller.tell(x, "both[n" + (n - 1) + " call1]"));
        due("about(0, 3)", x.about(0, 3), n);
        int made = x.count(0);
        if (over == 0) {
          due("melt(), " + n + " and " + each[1], x.melt(callIn(x)), made);
          due("about(0, 3)", x.about(0, 3), 40);
        } else {
          full(x, callIn(x));
        }
      }
    }
    CallMelt none = withCalled(0, 0, "6");
    none.body(0, Teller.tell(none, "both[n39 call1]"));
    due("melt(), 40 and none", none.melt(callIn(none)), 4);
    CallMelt y = withCalled(2, 0, "n37");
    y.body(0, Teller.tell(y, "call1"));
    due("melt(), 2 PARAMS and 38", y.melt(callIn(y)), 2);
    due("about(0, 3)", y.about(0, 3), 40);
    CallMelt z = withCalled(3, 0, "n37");
    z.body(0, Teller.tell(z, "call1"));
    full(z, callIn(z));
    CallMelt p = withCalled(0, 3, "6");
    p.body(0, Teller.tell(p, "call1[n36 1 2]"));
    due("melt(), 37 and 3 PARAMS", p.melt(callIn(p)), p.count(0) - 8);
    CallMelt q = withCalled(0, 3, "6");
    q.body(0, Teller.tell(q, "call1[n37 1 2]"));
    full(q, callIn(q));
  }

  private static void highByTheBody(int above, String body, int highOfBody, int uses) {
    for (int over = 0; over < 2; over++) {
      int levels = 40 - above - uses - 1 - highOfBody + over;
      CallMelt x = withCalled(0, 0, under(levels, body));
      x.body(0, Teller.tell(x, under(above, "call1")));
      int made = x.count(0);
      if (over == 0) {
        due("melt(), " + above + " above, " + uses + " NAMES", x.melt(callIn(x)), made);
      } else {
        full(x, callIn(x));
      }
    }
  }

  private static void fortyHighByTheBody() {
    says("FULL: 40 HIGH");
    highByTheBody(0, "6", 1, 0);
    highByTheBody(1, "6", 1, 0);
    highByTheBody(20, "6", 1, 0);
    highByTheBody(38, "6", 1, 0);
    highByTheBody(0, "n0", 1, 1);
    highByTheBody(3, "n0", 1, 1);
    highByTheBody(3, "n4", 1, 5);
    highByTheBody(2, "act0[1 act0[n1 2]]", 3, 2);
    highByTheBody(1, "n36", 1, 37);
    CallMelt x = withCalled(0, 0, "6");
    x.body(0, Teller.tell(x, under(39, "call1")));
    full(x, callIn(x));
    due("weight()", x.weight(callIn(x)), 1);
    CallMelt y = withCalled(0, 0, "n38");
    y.body(0, Teller.tell(y, "call1"));
    full(y, callIn(y));
  }

  private static void fortyHighByAPart() {
    says("FULL: 40 HIGH");
    for (int params = 1; params <= 3; params++) {
      for (int place = 0; place < params; place++) {
        for (int above = 0; above < 5; above += 2) {
          for (int over = 0; over < 2; over++) {
            CallMelt x = withCalled(0, params, "6");
            String part = under(40 - above - place - 3 + over, "6");
            StringBuilder call = new StringBuilder("call1[");
            for (int i = 0; i < params; i++) {
              call.append(i == 0 ? "" : " ").append(i == place ? part : "1");
            }
            x.body(0, Teller.tell(x, under(above, call.append("]").toString())));
            int made = x.count(0);
            if (over == 0) {
              due("melt(), PART " + place + ", " + above + " above", x.melt(callIn(x)), made);
            } else {
              full(x, callIn(x));
            }
          }
        }
      }
    }
  }

  private static void othersMayBeHigher() {
    says("FULL: 40 HIGH");
    CallMelt x = withCalled(0, 0, "6");
    x.body(0, Teller.tell(x, "both[" + under(38, "6") + " call1]"));
    due("melt() beside what is 40 HIGH", x.melt(callIn(x)), x.count(0) - 2);
    CallMelt y = new CallMelt();
    y.routine(0);
    y.body(0, Teller.tell(y, "both[" + under(37, "1") + " call0]"));
    // Itself is 39 HIGH, and comes 2 below its outermost.
    int made = y.count(0);
    due("melt() of itself", y.melt(made - 2), FULL);
    y.body(0, -1);
    y.body(0, Teller.tell(y, "both[" + under(36, "1") + " call0]"));
    made = y.count(0);
    due("melt() of itself, one less", y.melt(made - 2), made);
  }

  // ---- GAIN, WEIGHT

  private static void fourTimesItsCount() {
    says("GAIN of a CALL: 4 times its COUNT");
    CallMelt x = withCalled(0, 0, "6");
    int call = x.call(1, 0, 0, 0);
    int gap = x.routine(0);
    int missing = x.call(gap, 0, 0, 0);
    x.body(0, both(x, call, missing));
    due("not RUN", x.gain(call), 0);
    due("FUEL", x.run(0, 0, 0, 0, 3), FUEL);
    due("its COST was not paid", x.gain(call), 0);
    for (int times = 1; times < 4; times++) {
      due("MISSING", x.run(0, 0, 0, 0, 4), MISSING);
      due("its COST was paid", x.gain(call), 4 * times);
      due("of the MISSING one", x.gain(missing), 0);
    }
    x.clearCounts();
    due("since clearCounts()", x.gain(call), 0);
    CallMelt y = new CallMelt();
    y.routine(0);
    y.body(0, y.call(0, 0, 0, 0));
    due("DEEP", y.run(0, 0, 0, 0, 48), DEEP);
    due("the one that was DEEP, too", y.gain(0), 48);
    due("FUEL", y.run(0, 0, 0, 0, 47), FUEL);
    due("the one without FUEL not", y.gain(0), 48 + 44);
  }

  private static void howManyMoreSteps() {
    says("WEIGHT: how many more STEPS the BODY in which it stands has behind MELTING it");
    String[] bodies = {"6", "n0", "n1", "n2", "n3", "set0[act0[n1 n3]]", "both[1 set2[9]]"};
    int[] sizes = {1, 1, 1, 1, 1, 4, 4};
    int[] names = {0, 1, 2, 3, 4, 4, 3};
    for (int params = 0; params <= 3; params++) {
      for (int i = 0; i < bodies.length; i++) {
        CallMelt x = withCalled(0, params, bodies[i]);
        String parts = new String[] {"", "[7]", "[7 act0[8 8]]", "[7 8 reach[9]]"}[params];
        x.body(0, Teller.tell(x, "lay[1 call1" + parts + "]"));
        int call = callIn(x);
        int before = x.about(0, 2);
        int want = 2 * params + 3 * Math.max(0, names[i] - params) + sizes[i];
        due("weight(), " + params + " PARAMS, " + bodies[i], x.weight(call), want);
        x.melt(call);
        due("about(0, 2)", x.about(0, 2) - before, want);
      }
    }
  }
}
