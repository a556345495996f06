/** What the document says of the edges of drop(), undo() and count(); promises 22, 23 and 27. */
public final class UndoEdgesTest extends Tests {
  // The changes that undo() takes back, of changing().
  private static final int CHANGES = 5;

  public static void main(String[] args) throws ReflectiveOperationException {
    runAll(UndoEdgesTest.class);
  }

  /** ROUTINE 0 calls 1, which has one NAME; 2 is not called; STEP 0 is LOOSE. */
  private static CallMelt changing() {
    CallMelt x = new CallMelt();
    x.number(1);
    x.routine(0);
    x.routine(1);
    x.routine(0);
    x.body(1, Teller.tell(x, "n0"));
    x.body(2, Teller.tell(x, "act0[1 2]"));
    x.body(0, Teller.tell(x, "act0[call1[7] act0[3 4]]"));
    return x;
  }

  private static int call(CallMelt x) {
    return x.told(x.about(0, 1), 2);
  }

  /** A change that is not refused. */
  private static void change(CallMelt x, int which) {
    switch (which) {
      case 0:
        due("melt()", x.melt(call(x)) > 0 ? 1 : 0, 1);
        break;
      case 1:
        due("ahead()", x.ahead(0), 2);
        break;
      case 2:
        due("drop()", x.drop(), 1);
        break;
      case 3:
        due("body()", x.body(0, 0), 0);
        break;
      default:
        due("body(.., -1)", x.body(1, -1), 1);
    }
  }

  // ---- undo

  private static void asItWas() {
    says("All is as it was ahead of the latest melt(), ahead(), drop(), body(): 1");
    for (int which = 0; which < CHANGES; which++) {
      CallMelt x = changing();
      int steps = x.count(0);
      int kept = x.count(5);
      String before = state(x, steps);
      change(x, which);
      due("changed, " + which, state(x, steps).equals(before) ? 1 : 0, 0);
      due("count(5)", x.count(5), kept + 1);
      due("undo()", x.undo(), 1);
      due("the state, " + which, state(x, steps), before);
      due("count(5)", x.count(5), kept);
    }
  }

  private static void oneAfterTheOther() {
    says("All is as it was ahead of the latest one");
    CallMelt x = changing();
    fresh(x);
    String first = bodies(x);
    x.melt(call(x));
    String second = bodies(x);
    x.ahead(0);
    String third = bodies(x);
    x.drop();
    String fourth = bodies(x);
    x.body(0, 0);
    due("count(5)", x.count(5), 4);
    String[] ahead = {fourth, third, second, first};
    for (String each : ahead) {
      due("undo()", x.undo(), 1);
      due("the BODIES", bodies(x), each);
    }
    due("undo(), none is left", x.undo(), NO);
    due("the BODIES", bodies(x), first);
  }

  private static String bodies(CallMelt x) {
    StringBuilder text = new StringBuilder();
    for (int r = 0; r < x.count(3); r++) {
      int body = x.about(r, 1);
      text.append(body == NONE ? "none" : order(x, body)).append("; ");
    }
    return text.toString();
  }

  /** One STEP told anew: there is nothing to be taken back then. */
  private static void fresh(CallMelt x) {
    x.number(0);
    due("count(5)", x.count(5), 0);
  }

  private static void thereIsNone() {
    says("NO: there is none");
    CallMelt x = new CallMelt();
    due("undo()", x.undo(), NO);
    x.routine(0);
    x.number(1);
    due("undo(), STEPS and ROUTINES alone", x.undo(), NO);
    x.body(0, 0);
    due("undo()", x.undo(), 1);
    due("about(0, 1)", x.about(0, 1), NONE);
    due("undo() again", x.undo(), NO);
    due("count(5)", x.count(5), 0);
    x.body(0, 0);
    due("count(5)", x.count(5), 1);
  }

  private static void twelveAreKept() {
    says("12 are kept");
    for (int changes = 11; changes <= 27; changes++) {
      CallMelt x = new CallMelt();
      x.routine(0);
      for (int v = 0; v < 30; v++) {
        x.number(v);
      }
      for (int i = 0; i < changes; i++) {
        x.body(0, i);
        due("count(5)", x.count(5), Math.min(i + 1, 12));
      }
      int kept = Math.min(changes, 12);
      for (int i = 1; i <= kept; i++) {
        due("undo() " + i + " of " + changes, x.undo(), 1);
        due("about(0, 1)", x.about(0, 1), changes == i ? NONE : changes - 1 - i);
        due("count(5)", x.count(5), kept - i);
      }
      due("undo(), none is kept", x.undo(), NO);
      due("about(0, 1)", x.about(0, 1), changes == kept ? NONE : changes - 1 - kept);
    }
  }

  private static void keptAndTakenBackByTurns() {
    says("12 are kept");
    CallMelt x = new CallMelt();
    x.routine(0);
    for (int v = 0; v < 40; v++) {
      x.number(v);
    }
    for (int i = 0; i < 12; i++) {
      x.body(0, i);
    }
    for (int round = 0; round < 12; round++) {
      due("undo()", x.undo(), 1);
      due("undo()", x.undo(), 1);
      due("count(5)", x.count(5), 10);
      due("about(0, 1)", x.about(0, 1), round == 0 ? 9 : 19 + round);
      x.body(0, -1);
      x.body(0, 20 + round);
      x.undo();
      x.undo();
      x.body(0, 20 + round);
      x.body(0, -1);
      x.body(0, 39);
      due("count(5)", x.count(5), 12);
    }
  }

  private static void whatIsRefusedIsNone() {
    says("that was not refused");
    CallMelt x = changing();
    int kept = x.count(5);
    String before = state(x, x.count(0));
    due("melt(), BAD", x.melt(0), BAD);
    due("ahead(), BAD", x.ahead(3), BAD);
    due("body(), BAD", x.body(3, 0), BAD);
    due("body(), BAD", x.body(0, -2), BAD);
    due("body(), BAD", x.body(0, x.about(1, 1)), BAD);
    due("count(5)", x.count(5), kept);
    due("the state", state(x, x.count(0)), before);
    x.body(1, -1);
    due("melt(), NO", x.melt(call(x)), NO);
    due("ahead(), NO", x.ahead(1), NO);
    due("count(5)", x.count(5), kept + 1);
    CallMelt y = new CallMelt();
    due("drop(), NO", y.drop(), NO);
    due("undo()", y.undo(), NO);
  }

  private static void refusedOnesPushNoneOut() {
    says("that was not refused (.. 12 are kept ..)");
    CallMelt x = new CallMelt();
    for (int r = 0; r < 3; r++) {
      x.routine(0);
    }
    x.body(1, Teller.tell(x, "leave[1]"));
    x.body(0, Teller.tell(x, "lay[call1 act0[1 2]]"));
    int call = x.told(x.about(0, 1), 2);
    int first = x.count(0);
    for (int i = 0; i < 13; i++) {
      x.number(i);
    }
    fill(x, MOST_STEPS);
    for (int i = 0; i < 13; i++) {
      x.body(2, first + i);
    }
    for (int i = 0; i < 3; i++) {
      due("melt(), FULL", x.melt(call), FULL);
      due("ahead(), FULL", x.ahead(0), FULL);
      due("count(5)", x.count(5), 12);
    }
    for (int i = 11; i >= 0; i--) {
      due("undo()", x.undo(), 1);
      due("about(2, 1)", x.about(2, 1), first + i);
      due("count(5)", x.count(5), i);
    }
    due("undo()", x.undo(), NO);
    due("about(2, 1)", x.about(2, 1), first);
  }

  private static void changesThatChangeNothing() {
    says("the latest melt(), ahead(), drop(), body() that was not refused");
    CallMelt x = new CallMelt();
    x.routine(0);
    fresh(x);
    due("body(0, -1), MISSING already", x.body(0, -1), 0);
    due("count(5)", x.count(5), 1);
    due("drop(), none becomes MISSING", x.drop(), 0);
    due("count(5)", x.count(5), 2);
    x.body(0, 0);
    due("ahead(), none fewer", x.ahead(0), 0);
    due("count(5)", x.count(5), 4);
    for (int i = 3; i >= 0; i--) {
      due("undo()", x.undo(), 1);
      due("count(5)", x.count(5), i);
      due("about(0, 1)", x.about(0, 1), i == 3 ? 0 : NONE);
    }
  }

  private static void toldAnewEndsAll() {
    says("any STEP, ROUTINE that is told anew ends all");
    for (int which = 0; which < 13; which++) {
      CallMelt x = changing();
      int[] part = {x.number(1), x.number(2), x.number(3)};
      x.body(0, -1);
      x.drop();
      due("count(5)", x.count(5), 2);
      int[] kinds = {PICK, BOTH, LEAVE, WHILE, REACH, LAY};
      int got;
      switch (which) {
        case 0: got = x.number(1); break;
        case 1: got = x.name(1); break;
        case 2: got = x.act(0, part[0], part[1]); break;
        case 3: got = x.set(0, part[0]); break;
        case 4: got = x.call(0, 0, 0, 0); break;
        case 5: got = x.call(1, part[0], 0, 0); break;
        case 6: got = x.routine(0); break;
        default: got = x.join(kinds[which - 7], part[0], part[1], part[2]);
      }
      due("not refused, " + which, got >= 0 ? 1 : 0, 1);
      due("count(5), " + which, x.count(5), 0);
      due("undo(), " + which, x.undo(), NO);
      due("about(0, 1)", x.about(0, 1), NONE);
    }
  }

  private static void refusedTellingEndsNone() {
    says("any STEP, ROUTINE that is told anew");
    CallMelt x = changing();
    int kept = x.count(5);
    due("name()", x.name(40), BAD);
    due("act()", x.act(6, 0, 0), BAD);
    due("act()", x.act(0, 0, 0), BAD);
    due("join()", x.join(6, 0, 0, 0), BAD);
    due("join()", x.join(BOTH, 0, 0, 0), BAD);
    due("set()", x.set(0, -1), BAD);
    due("call()", x.call(3, 0, 0, 0), BAD);
    due("call()", x.call(1, -1, 0, 0), BAD);
    due("routine()", x.routine(4), BAD);
    due("count(5)", x.count(5), kept);
    CallMelt y = new CallMelt();
    for (int r = 0; r < 10; r++) {
      y.routine(0);
    }
    int high = high(y, 40);
    y.body(0, high);
    y.body(0, -1);
    due("routine(), FULL", y.routine(0), FULL);
    due("set(), FULL", y.set(0, high), FULL);
    due("count(5)", y.count(5), 2);
    CallMelt z = changing();
    fill(z, MOST_STEPS);
    z.body(0, -1);
    due("number(), FULL", z.number(0), FULL);
    due("count(5)", z.count(5), 1);
    due("undo()", z.undo(), 1);
  }

  private static void otherCallsEndNone() {
    says("any STEP, ROUTINE that is told anew ends all");
    CallMelt x = changing();
    int kept = x.count(5);
    x.run(0, 0, 0, 0, 99);
    x.lay(0, 5);
    x.clearCounts();
    x.layout(0, 99);
    x.next(0, 99);
    x.same(0, 0);
    due("told()", x.told(0, 0), NUMBER);
    due("gain()", x.gain(call(x)), 0);
    due("weight()", x.weight(call(x)), 3);
    due("count(5)", x.count(5), kept);
    due("undo()", x.undo(), 1);
    due("about(0, 1)", x.about(0, 1), NONE);
  }

  private static void butCountsAndTheRow() {
    says("but COUNTS, THE ROW");
    CallMelt x = changing();
    x.lay(3, 33);
    x.run(0, 0, 0, 0, 99);
    int call = call(x);
    int seven = x.told(call, 2);
    x.melt(call);
    x.lay(3, 44);
    x.lay(4, 55);
    x.run(0, 0, 0, 0, 99);
    x.run(0, 0, 0, 0, 99);
    x.undo();
    due("row(3)", x.row(3), 44);
    due("row(4)", x.row(4), 55);
    due("COUNT of its PART", x.told(seven, 7), 3);
    due("COUNT of the BODY", x.told(x.about(0, 1), 7), 3);
    due("COUNT of the CALL", x.told(call, 7), 1);
    due("gain()", x.gain(call), 4);
    x.melt(call);
    x.clearCounts();
    x.undo();
    due("COUNT of its PART, cleared", x.told(seven, 7), 0);
    due("COUNT of the CALL, cleared", x.told(call, 7), 0);
  }

  private static void stepsThatCameWithItAreGone() {
    says("STEPS that came with it are GONE, and stay counted");
    CallMelt x = changing();
    int call = call(x);
    int made = x.count(0);
    due("melt()", x.melt(call), made);
    x.run(0, 0, 0, 0, 99);
    x.undo();
    due("count(0)", x.count(0), made + 4);
    due("count(1)", x.count(1), 4);
    int[] gone = {GONE, 0, NONE, NONE, NONE, NONE, NONE, 0, 0};
    for (int step = made; step < made + 4; step++) {
      for (int what = 0; what < 9; what++) {
        due("told(" + step + ", " + what + ")", x.told(step, what), gone[what]);
      }
      due("same()", x.same(step, step), BAD);
      due("body()", x.body(2, step), BAD);
    }
    due("melt(): not given anew", x.melt(call), made + 4);
    due("ahead(): not given anew", x.ahead(0) > 0 ? 1 : 0, 1);
    int more = x.count(0);
    x.undo();
    x.undo();
    due("count(0)", x.count(0), more);
    due("count(1)", x.count(1), more - made);
    due("number(): not given anew", x.number(5), more);
  }

  private static void whatCameAndWentComesBack() {
    says("All is as it was");
    CallMelt x = changing();
    int call = call(x);
    int first = x.melt(call);
    String melted = showBody(x, 0);
    due("ahead()", x.ahead(0) > 0 ? 1 : 0, 1);
    due("told(first, 0): went by ahead()", x.told(first, 0), GONE);
    due("undo()", x.undo(), 1);
    due("told(first, 0): is back", x.told(first, 0), BOTH);
    due("the BODY", showBody(x, 0), melted);
    due("undo()", x.undo(), 1);
    due("told(first, 0): came by melt()", x.told(first, 0), GONE);
    due("told(call, 0)", x.told(call, 0), CALL);
    due("told(call, 8)", x.told(call, 8), 2);
  }

  // ---- drop

  private static void noRoutine() {
    says("NO: there is no ROUTINE");
    CallMelt x = new CallMelt();
    due("drop()", x.drop(), NO);
    x.number(1);
    due("drop()", x.drop(), NO);
    x.routine(0);
    due("drop(), one that is MISSING", x.drop(), 0);
    x.body(0, 0);
    due("drop(), 0 alone", x.drop(), 0);
    due("about(0, 1)", x.about(0, 1), 0);
  }

  private static void andSoOn() {
    says("All ROUTINES that 0 does not call, nor those that it calls, and so on");
    for (int cut = 0; cut < 10; cut++) {
      // 0 calls 9, that 8, and so on to 1; the one that is cut is MISSING.
      CallMelt x = new CallMelt();
      for (int r = 0; r < 10; r++) {
        x.routine(0);
      }
      for (int r = 0; r < 10; r++) {
        x.body(r, r == 1 ? x.number(1) : x.set(0, x.call(r == 0 ? 9 : r - 1, 0, 0, 0)));
      }
      due("drop(), all are called", x.drop(), 0);
      due("count(4)", x.count(4), 0);
      x.body(cut, -1);
      int behind = cut == 0 ? 9 : cut - 1;
      due("drop(), without " + cut, x.drop(), behind);
      due("count(4)", x.count(4), behind + 1);
      for (int r = 1; r < 10; r++) {
        due("about(" + r + ", 1) is NONE", x.about(r, 1) == NONE ? 1 : 0, cut == 0 || r <= cut ? 1 : 0);
      }
    }
  }

  private static void thatIsNotCalled() {
    says("All ROUTINES that 0 does not call .. become MISSING: how many were not");
    CallMelt x = new CallMelt();
    for (int r = 0; r < 7; r++) {
      x.routine(r == 2 ? 1 : 0);
    }
    x.body(1, x.number(1));
    x.body(2, x.name(0));
    x.body(3, x.call(4, 0, 0, 0));
    x.body(4, x.call(3, 0, 0, 0));
    int five = x.call(5, 0, 0, 0);
    x.body(5, five);
    x.body(0, Teller.tell(x, "lay[call2[call1] 1]"));
    x.call(3, 0, 0, 0);
    due("count(4)", x.count(4), 1);
    int loose = x.count(2);
    due("drop()", x.drop(), 3);
    int[] missing = {0, 0, 0, 1, 1, 1, 1};
    for (int r = 0; r < 7; r++) {
      due("about(" + r + ", 1) is NONE", x.about(r, 1) == NONE ? 1 : 0, missing[r]);
    }
    due("count(2): their BODIES are LOOSE", x.count(2), loose + 3);
    due("told(five, 6)", x.told(five, 6), NONE);
    due("drop() again", x.drop(), 0);
    x.undo();
    x.undo();
    due("count(4)", x.count(4), 1);
    x.body(0, -1);
    due("drop(), 0 is MISSING", x.drop(), 5);
    due("count(4)", x.count(4), 7);
  }

  private static void routineNoughtStays() {
    says("All ROUTINES that 0 does not call");
    CallMelt x = new CallMelt();
    x.routine(0);
    x.routine(0);
    x.body(0, x.number(1));
    x.body(1, x.call(0, 0, 0, 0));
    due("drop()", x.drop(), 1);
    due("about(0, 1), where it begins", x.about(0, 1), 0);
    due("about(1, 1)", x.about(1, 1), NONE);
    CallMelt y = new CallMelt();
    y.routine(0);
    y.body(0, y.call(0, 0, 0, 0));
    due("drop(), 0 calls itself", y.drop(), 0);
    due("about(0, 1)", y.about(0, 1), 0);
  }

  // ---- count

  private static void howMany() {
    says("How many: 0 STEPS .. 5 changes that can be undone. BAD");
    CallMelt x = changing();
    int[] first = {11, 0, 1, 3, 0, 1};
    for (int what = 0; what < 6; what++) {
      due("count(" + what + ")", x.count(what), first[what]);
    }
    x.melt(call(x));
    x.drop();
    int[] second = {15, 1, 3, 3, 2, 3};
    for (int what = 0; what < 6; what++) {
      due("count(" + what + "), MELTED and dropped", x.count(what), second[what]);
    }
    int[] bad = {-1, 6, LEAST, MOST};
    for (int what : bad) {
      due("count(" + what + ")", x.count(what), BAD);
    }
    CallMelt y = new CallMelt();
    y.number(1);
    due("count(0), one", y.count(0), 1);
    due("count(2), one", y.count(2), 1);
    y.routine(0);
    due("count(3), one", y.count(3), 1);
    due("count(4), one", y.count(4), 1);
  }
}
