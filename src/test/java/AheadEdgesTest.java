/** What the document says of the edges of WORKING AHEAD; promise 21. */
public final class AheadEdgesTest extends Tests {
  public static void main(String[] args) throws ReflectiveOperationException {
    runAll(AheadEdgesTest.class);
  }

  private static CallMelt withBody(int params, String body) {
    CallMelt x = new CallMelt();
    x.routine(params);
    Teller.body(x, 0, body);
    return x;
  }

  /** What a ROUTINE with so many PARAMS becomes, and how many STEPS were made for it. */
  private static void worked(int params, String body, String want, int fewer, int made) {
    CallMelt x = withBody(params, body);
    int size = x.about(0, 2);
    int steps = x.count(0);
    int gone = x.count(1);
    int loose = x.count(2);
    due("ahead(), " + body, x.ahead(0), fewer);
    due("the BODY, " + body, showBody(x, 0), want);
    due("about(0, 2), " + body, x.about(0, 2), size - fewer);
    due("count(0), " + body, x.count(0), steps + made);
    due("count(1), " + body, x.count(1), gone + fewer + made);
    due("count(2), " + body, x.count(2), loose);
    due("ahead() again", x.ahead(0), 0);
  }

  private static void stays(int params, String body) {
    worked(params, body, body, 0, 0);
  }

  // ---- a to f

  private static void actsOfTwoNumbers() {
    says("a an ACT of two NUMBERS (op 3: not by 0) becomes the NUMBER that it comes to");
    worked(0, "act0[2147483647 1]", "-2147483648", 2, 1);
    worked(0, "act1[-2147483648 1]", "2147483647", 2, 1);
    worked(0, "act2[65536 65537]", "65536", 2, 1);
    worked(0, "act3[-7 2]", "-3", 2, 1);
    worked(0, "act3[-2147483648 -1]", "-2147483648", 2, 1);
    worked(0, "act3[0 1]", "0", 2, 1);
    worked(0, "act3[0 -1]", "0", 2, 1);
    worked(0, "act4[4 5]", "1", 2, 1);
    worked(0, "act4[5 5]", "0", 2, 1);
    worked(0, "act4[2147483647 -2147483648]", "0", 2, 1);
    worked(0, "act5[5 5]", "1", 2, 1);
    worked(0, "act5[5 4]", "0", 2, 1);
    worked(0, "act2[0 0]", "0", 2, 1);
    worked(0, "act0[act1[9 2] act2[3 4]]", "19", 6, 3);
  }

  private static void actsThatStay() {
    says("a an ACT of two NUMBERS (op 3: not by 0)");
    stays(0, "act3[7 0]");
    stays(0, "act3[0 0]");
    stays(0, "act0[n0 1]");
    stays(0, "act0[1 n0]");
    stays(0, "act0[n0 n0]");
    stays(0, "act0[1 reach[2]]");
    stays(0, "set0[1]");
    stays(0, "reach[1]");
    stays(0, "lay[1 2]");
    stays(0, "leave[1]");
    stays(0, "7");
    stays(0, "n0");
    worked(0, "act3[7 act1[2 2]]", "act3[7 0]", 2, 1);
    worked(0, "act0[act3[7 0] act0[1 2]]", "act0[act3[7 0] 3]", 2, 1);
  }

  private static void picksOfANumber() {
    says("b a PICK whose t is a NUMBER becomes the PART that is done");
    worked(0, "pick[0 n0 n1]", "n1", 3, 0);
    worked(0, "pick[1 n0 n1]", "n0", 3, 0);
    worked(0, "pick[-1 n0 n1]", "n0", 3, 0);
    worked(0, "pick[-2147483648 n0 n1]", "n0", 3, 0);
    worked(0, "pick[2147483647 n0 n1]", "n0", 3, 0);
    worked(0, "pick[0 act0[1 2] set3[n1]]", "set3[n1]", 5, 0);
    worked(0, "pick[act1[2 2] n0 n1]", "n1", 5, 1);
    stays(0, "pick[n0 1 2]");
    stays(0, "pick[set0[1] 1 2]");
    CallMelt x = new CallMelt();
    x.routine(0);
    int part = x.set(3, x.name(1));
    x.body(0, x.join(PICK, x.number(1), part, x.name(0)));
    x.ahead(0);
    due("the PART itself", x.about(0, 1), part);
    due("told(part, 5)", x.told(part, 5), NONE);
    due("told(part, 6)", x.told(part, 6), 0);
  }

  private static void whilesOfNought() {
    says("c a WHILE whose t is the NUMBER 0 becomes the NUMBER 0");
    worked(0, "while[0 set0[n1]]", "0", 3, 1);
    worked(0, "while[act1[2 2] n0]", "0", 4, 2);
    worked(0, "set0[while[0 n1]]", "set0[0]", 2, 1);
    stays(0, "while[1 n0]");
    stays(0, "while[-1 n0]");
    stays(0, "while[n0 0]");
    stays(0, "while[set0[0] 0]");
  }

  private static void bothOfANumberOrAName() {
    says("d BOTH whose first is a NUMBER, or a NAME, becomes the second");
    worked(0, "both[0 n0]", "n0", 2, 0);
    worked(0, "both[1 n0]", "n0", 2, 0);
    worked(0, "both[n5 n0]", "n0", 2, 0);
    worked(0, "both[n5 set1[n0]]", "set1[n0]", 2, 0);
    worked(0, "both[both[1 2] n0]", "n0", 4, 0);
    worked(0, "both[while[0 1] 2]", "2", 4, 1);
    stays(0, "both[reach[1] 2]");
    stays(0, "both[leave[1] 2]");
    stays(0, "both[act0[n0 1] 2]");
    stays(0, "both[pick[n0 1 2] 3]");
    stays(0, "both[while[n0 1] 2]");
    stays(0, "both[lay[1 2] n0]");
    stays(0, "both[set0[n1] n0]");
    stays(0, "both[both[reach[1] 2] 3]");
    CallMelt x = new CallMelt();
    x.routine(0);
    int second = x.set(3, x.name(1));
    x.body(0, both(x, x.number(1), second));
    x.ahead(0);
    due("the second itself", x.about(0, 1), second);
  }

  private static void blocksThatNothingLeaves() {
    says("e a BLOCK without LEAVE (that would end it) becomes its PART");
    worked(0, "block[1]", "1", 1, 0);
    worked(0, "block[reach[1]]", "reach[1]", 1, 0);
    worked(0, "block[block[1]]", "1", 2, 0);
    worked(0, "leave[block[reach[1]]]", "leave[reach[1]]", 1, 0);
    stays(0, "block[leave[1]]");
    stays(0, "block[reach[leave[1]]]");
    stays(0, "block[lay[1 leave[2]]]");
    stays(0, "block[lay[leave[1] 2]]");
    stays(0, "block[while[reach[0] leave[2]]]");
    worked(0, "block[pick[1 2 leave[3]]]", "2", 5, 0);
    worked(0, "block[pick[0 2 leave[3]]]", "block[leave[3]]", 3, 0);
  }

  private static void blocksInBlocks() {
    says("e a BLOCK without LEAVE (that would end it)");
    worked(0, "block[lay[1 block[leave[2]]]]", "lay[1 block[leave[2]]]", 1, 0);
    worked(0, "block[lay[block[leave[2]] 1]]", "lay[block[leave[2]] 1]", 1, 0);
    worked(0, "block[block[leave[1]]]", "block[leave[1]]", 1, 0);
    worked(0, "block[block[block[leave[1]]]]", "block[leave[1]]", 2, 0);
    worked(0, "block[lay[block[leave[1]] block[leave[2]]]]",
        "lay[block[leave[1]] block[leave[2]]]", 1, 0);
    stays(0, "block[lay[block[leave[1]] leave[2]]]");
    stays(0, "block[lay[leave[2] block[leave[1]]]]");
    stays(0, "block[leave[block[leave[1]]]]");
    stays(0, "block[lay[lay[block[leave[1]] 2] leave[3]]]");
    stays(0, "block[lay[lay[block[leave[1]] leave[2]] 3]]");
    stays(0, "block[lay[lay[block[lay[1 leave[2]]] 3] lay[4 leave[5]]]]");
    stays(0, "block[lay[block[lay[leave[1] 2]] lay[leave[3] 4]]]");
    worked(0, "block[lay[lay[block[lay[1 leave[2]]] 3] lay[4 5]]]",
        "lay[lay[block[lay[1 leave[2]]] 3] lay[4 5]]", 1, 0);
    worked(0, "block[lay[block[block[leave[1]]] leave[2]]]",
        "block[lay[block[leave[1]] leave[2]]]", 1, 0);
  }

  private static void leavesOfCalls() {
    says("e a BLOCK without LEAVE (that would end it)");
    CallMelt x = new CallMelt();
    x.routine(0);
    x.routine(1);
    x.body(1, Teller.tell(x, "leave[n0]"));
    Teller.body(x, 0, "block[call1[7]]");
    due("LEAVE in the called ROUTINE", x.ahead(0), 1);
    due("the BODY", showBody(x, 0), "call1[7]");
    Teller.body(x, 0, "block[call1[leave[7]]]");
    due("LEAVE in a PART of the CALL", x.ahead(0), 0);
    due("the BODY", showBody(x, 0), "block[call1[leave[7]]]");
  }

  private static void setThatStandsFast() {
    says("f BOTH whose first is SET k of a NUMBER: becomes that, in which each NAME k becomes that");
    worked(0, "both[set0[9] n0]", "9", 3, 1);
    worked(0, "both[set39[9] n39]", "9", 3, 1);
    worked(0, "both[set0[9] act0[n0 n1]]", "act0[9 n1]", 3, 1);
    worked(0, "both[set0[9] act0[reach[n0] n0]]", "act0[reach[9] 9]", 3, 2);
    worked(0, "both[set0[9] n1]", "n1", 3, 0);
    worked(0, "both[set0[9] reach[1]]", "reach[1]", 3, 0);
    worked(0, "both[set0[-2147483648] reach[n0]]", "reach[-2147483648]", 3, 1);
    worked(0, "both[set0[1] both[set1[n0] act0[n1 n0]]]", "2", 8, 4);
    worked(0, "both[set0[0] while[n0 n1]]", "0", 5, 2);
    stays(0, "both[set0[n1] n0]");
    stays(0, "both[set0[reach[1]] n0]");
    worked(0, "both[set0[act0[1 2]] reach[n0]]", "reach[3]", 5, 2);
    stays(0, "lay[set0[9] n0]");
  }

  private static void paramsDoNotStandFast() {
    says("f .. k being no PARAM");
    for (int params = 0; params <= 3; params++) {
      for (int k = 0; k < params; k++) {
        stays(params, "both[set" + k + "[9] n" + k + "]");
        stays(params, "both[set" + k + "[9] reach[1]]");
      }
      worked(params, "both[set" + params + "[9] n" + params + "]", "9", 3, 1);
    }
  }

  private static void noOtherSet() {
    says("f .. if the BODY has no other SET k");
    stays(0, "both[set3[9] both[set3[n0] n3]]");
    stays(0, "both[set3[n0] both[set3[9] n3]]");
    stays(0, "lay[both[set3[9] n3] set3[n0]]");
    stays(0, "lay[set3[n0] both[set3[9] n3]]");
    stays(0, "both[set3[9] both[set3[8] n3]]");
    stays(0, "both[set3[9] set3[1]]");
    stays(0, "set3[both[set3[9] n3]]");
    worked(0, "set2[both[set3[9] n3]]", "set2[9]", 3, 1);
    worked(0, "lay[set4[n0] both[set3[9] n3]]", "lay[set4[n0] 9]", 3, 1);
    worked(0, "lay[set2[n0] both[set3[9] n3]]", "lay[set2[n0] 9]", 3, 1);
    worked(0, "both[set3[9] pick[0 set3[1] n3]]", "9", 7, 1);
    CallMelt x = withBody(0, "both[set3[9] n3]");
    x.routine(0);
    x.body(1, Teller.tell(x, "lay[set3[1] n3]"));
    Teller.tell(x, "lay[set3[1] n3]");
    due("SET 3 and NAME 3 in others", x.ahead(0), 3);
    due("the BODY", showBody(x, 0), "9");
    due("the other BODY", showBody(x, 1), "lay[set3[1] n3]");
  }

  private static void noNameButInItsSecond() {
    says("f .. and no NAME k but in its second");
    stays(0, "lay[n3 both[set3[9] n3]]");
    stays(0, "lay[both[set3[9] n3] n3]");
    stays(0, "lay[both[set3[9] 1] n3]");
    stays(0, "both[set4[n3] both[set3[9] n3]]");
    worked(0, "lay[n4 both[set3[9] n3]]", "lay[n4 9]", 3, 1);
    worked(0, "lay[n2 both[set3[9] n3]]", "lay[n2 9]", 3, 1);
    worked(0, "lay[3 both[set3[9] n3]]", "lay[3 9]", 3, 1);
    worked(0, "pick[reach[1] both[set3[9] n3] both[set4[8] n4]]", "pick[reach[1] 9 8]", 6, 2);
    stays(0, "pick[reach[1] both[set3[9] n3] both[set3[8] n3]]");
    // Where f does not hold, what holds behind it is worked ahead as if that BOTH were not there.
    worked(0, "lay[both[set3[9] n3] act0[n3 act0[1 2]]]",
        "lay[both[set3[9] n3] act0[n3 3]]", 2, 1);
    worked(0, "lay[both[set3[9] n3] reach[pick[1 n3 n3]]]",
        "lay[both[set3[9] n3] reach[n3]]", 3, 0);
    worked(0, "lay[both[set3[9] n3] set4[while[0 n3]]]", "lay[9 set4[0]]", 5, 2);
  }

  // ---- their order, new STEPS

  private static void firstStepFirst() {
    says("the first STEP (each ahead of its PARTS, the first PART first) of which one holds");
    CallMelt x = withBody(0, "lay[act0[act0[1 1] 1] act0[7 7]]");
    int made = x.count(0);
    int lay = x.about(0, 1);
    due("ahead()", x.ahead(0), 6);
    due("the order", order(x, lay), lay + " " + (made + 1) + " " + (made + 2));
    due("told(made, 0): it went", x.told(made, 0), GONE);
    CallMelt y = withBody(0, "lay[act0[1 2] act0[3 4]]");
    made = y.count(0);
    y.ahead(0);
    due("the order", order(y, y.about(0, 1)), y.about(0, 1) + " " + made + " " + (made + 1));
    // What goes with a STEP further out is not worked ahead.
    worked(0, "pick[0 act0[1 2] act0[3 4]]", "7", 7, 1);
    worked(0, "while[0 act0[1 2]]", "0", 4, 1);
    worked(0, "both[set0[9] both[n0 reach[1]]]", "reach[1]", 5, 1);
    worked(0, "both[n0 both[set1[9] n1]]", "9", 5, 1);
    worked(0, "pick[1 block[both[2 3]] act0[1 2]]", "3", 8, 0);
  }

  private static void inTheOrderOfTheNames() {
    says("What becomes a NUMBER is a new STEP each (in f by the order of the NAMES)");
    CallMelt x = new CallMelt();
    x.routine(0);
    int second = x.name(2);
    int first = x.name(2);
    x.body(0, both(x, x.set(2, x.number(9)), lays(x, first, reach(x, second))));
    int made = x.count(0);
    due("ahead()", x.ahead(0), 3);
    int lay = x.about(0, 1);
    due("the order", order(x, lay), lay + " " + made + " " + x.told(lay, 3) + " " + (made + 1));
    due("the BODY", showBody(x, 0), "lay[9 reach[9]]");
    due("told(first, 0)", x.told(first, 0), GONE);
    due("told(second, 0)", x.told(second, 0), GONE);
    for (int step = made; step < made + 2; step++) {
      due("told(" + step + ", 7)", x.told(step, 7), 0);
      due("told(" + step + ", 8)", x.told(step, 8), 1);
    }
  }

  private static void whatGoesIsGone() {
    says("what goes is GONE");
    String[] bodies = {"act0[1 2]", "pick[0 act0[1 2] 3]", "while[0 act0[1 2]]", "both[1 2]",
        "block[1]", "both[set0[9] act0[n0 4]]"};
    for (String body : bodies) {
      CallMelt x = withBody(0, body);
      x.run(0, 0, 0, 0, 99);
      String[] stood = order(x, x.about(0, 1)).split(" ");
      x.ahead(0);
      int left = x.about(0, 1);
      due("one is left, " + body, x.about(0, 2), 1);
      for (String each : stood) {
        int step = Integer.parseInt(each);
        due("told(" + step + ", 0), " + body, x.told(step, 0), step == left ? NUMBER : GONE);
        due("told(" + step + ", 7), " + body, x.told(step, 7), step == left ? 1 : 0);
      }
    }
  }

  // ---- what is refused

  private static void noSuchRoutine() {
    says("BAD; NO: it is MISSING");
    CallMelt x = new CallMelt();
    due("ahead(0)", x.ahead(0), BAD);
    x.routine(0);
    int[] bad = {-1, 1, 9, 10, LEAST, MOST};
    for (int r : bad) {
      due("ahead(" + r + ")", x.ahead(r), BAD);
    }
    due("ahead(0), MISSING", x.ahead(0), NO);
    due("count(5)", x.count(5), 0);
    x.body(0, x.number(1));
    due("ahead(0), nothing to do", x.ahead(0), 0);
    due("count(5), not refused", x.count(5), 2);
    x.body(0, -1);
    due("ahead(0), MISSING", x.ahead(0), NO);
    due("count(5)", x.count(5), 3);
    fill(x, MOST_STEPS);
    due("ahead(0), MISSING, 600 STEPS", x.ahead(0), NO);
    due("ahead(9), 600 STEPS", x.ahead(9), BAD);
  }

  /** Worked ahead with so many new STEPS: to 600, and to 601, where nothing changes. */
  private static void filled(String body, int made) {
    CallMelt x = withBody(0, body);
    fill(x, MOST_STEPS - made);
    due("ahead() to 600, " + body, x.ahead(0) > 0 ? 1 : 0, 1);
    due("count(0)", x.count(0), MOST_STEPS);
    if (made > 0) {
      CallMelt y = withBody(0, body);
      fill(y, MOST_STEPS - made + 1);
      String before = state(y, 12);
      int gone = y.count(1);
      due("ahead() to 601, " + body, y.ahead(0), FULL);
      due("the state", state(y, 12), before);
      due("the BODY", showBody(y, 0), body);
      due("count(0)", y.count(0), MOST_STEPS - made + 1);
      due("count(1)", y.count(1), gone);
      due("count(5)", y.count(5), 0);
      due("ahead() again", y.ahead(0), FULL);
      due("undo()", y.undo(), NO);
    }
  }

  private static void sixHundredSteps() {
    says("FULL: STEPS would be too many. Nothing changes then");
    filled("act0[1 2]", 1);
    filled("act0[act0[1 2] 3]", 2);
    filled("lay[act0[1 2] act0[3 4]]", 2);
    filled("while[0 1]", 1);
    filled("pick[0 1 2]", 0);
    filled("both[1 2]", 0);
    filled("both[set0[9] 1]", 0);
    filled("both[set0[9] n0]", 1);
    filled("both[set0[9] lay[n0 n0]]", 2);
    filled("pick[1 both[2 act0[1 2]] 5]", 1);
    filled("both[set0[9] act0[n0 n0]]", 3);
  }

  private static void fullIsForOneCall() {
    says("FULL: STEPS would be too many");
    CallMelt x = withBody(0, "act0[1 2]");
    x.routine(0);
    x.body(1, Teller.tell(x, "both[1 act3[7 0]]"));
    fill(x, MOST_STEPS);
    due("ahead(0)", x.ahead(0), FULL);
    due("ahead(1), without a new STEP", x.ahead(1), 2);
    due("ahead(0)", x.ahead(0), FULL);
    due("the BODY", showBody(x, 0), "act0[1 2]");
    due("the BODY of 1", showBody(x, 1), "act3[7 0]");
  }

  private static void onlyItsBody() {
    says("WORKED AHEAD is a ROUTINE");
    CallMelt x = new CallMelt();
    x.routine(0);
    x.routine(1);
    x.body(1, Teller.tell(x, "act0[act0[1 2] n0]"));
    int loose = Teller.tell(x, "act0[1 2]");
    x.body(0, Teller.tell(x, "call1[act0[3 4]]"));
    due("ahead(0)", x.ahead(0), 2);
    due("the BODY of 0", showBody(x, 0), "call1[7]");
    due("the BODY of 1", showBody(x, 1), "act0[act0[1 2] n0]");
    due("a LOOSE one", show(x, loose), "act0[1 2]");
    due("ahead(1)", x.ahead(1), 2);
    due("the BODY of 1", showBody(x, 1), "act0[3 n0]");
  }
}
