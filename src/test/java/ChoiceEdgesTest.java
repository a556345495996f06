/** What the document says of the edges of layout(), laid() and next(); promises 24 to 26. */
public final class ChoiceEdgesTest extends Tests {
  public static void main(String[] args) throws ReflectiveOperationException {
    runAll(ChoiceEdgesTest.class);
  }

  // In a market() the CALLS are 10, 11, ..: the WEIGHT of each is the number of its ROUTINE.

  private static void laid(CallMelt x, int budget, int gain, int weight, int... calls) {
    due("layout(0, " + budget + ")", x.layout(0, budget), calls.length);
    due("laid(0)", x.laid(0), gain);
    due("laid(1)", x.laid(1), weight);
    for (int i = 0; i < calls.length; i++) {
      due("laid(" + (2 + i) + ")", x.laid(2 + i), calls[i]);
    }
    due("laid(" + (2 + calls.length) + ")", x.laid(2 + calls.length), NONE);
  }

  // ---- LAYOUT

  private static void withinABudget() {
    says("all WEIGHTS together at most the budget");
    CallMelt x = market(new int[] {3, 1});
    visit(x, 2, 1);
    laid(x, 0, 0, 0);
    laid(x, 1, 4, 1, 11);
    laid(x, 2, 4, 1, 11);
    laid(x, 3, 8, 3, 10);
    laid(x, 4, 12, 4, 10, 11);
    laid(x, 5, 12, 4, 10, 11);
    laid(x, 1000, 12, 4, 10, 11);
  }

  private static void budgets() {
    says("within a budget (0 to 1000). BAD; NO: it is MISSING");
    CallMelt x = market(new int[] {1});
    visit(x, 1);
    x.routine(0);
    int[] bad = {-1, 1001, LEAST, MOST};
    for (int budget : bad) {
      due("layout(0, " + budget + ")", x.layout(0, budget), BAD);
      due("next(0, " + budget + ")", x.next(0, budget), BAD);
      due("layout(5, " + budget + "), MISSING", x.layout(5, budget), BAD);
      due("next(5, " + budget + "), MISSING", x.next(5, budget), BAD);
    }
    int[] none = {-1, 6, 9, 10, LEAST, MOST};
    for (int r : none) {
      due("layout(" + r + ", 5)", x.layout(r, 5), BAD);
      due("next(" + r + ", 5)", x.next(r, 5), BAD);
    }
    due("laid(0), all were refused", x.laid(0), NO);
    int[] fine = {0, 1000};
    for (int budget : fine) {
      due("layout(5, " + budget + "), MISSING", x.layout(5, budget), NO);
      due("next(5, " + budget + "), MISSING", x.next(5, budget), NO);
      due("layout(0, " + budget + ")", x.layout(0, budget), budget == 0 ? 0 : 1);
      due("next(0, " + budget + ")", x.next(0, budget), budget == 0 ? NONE : 10);
    }
    CallMelt y = new CallMelt();
    due("layout(0, 0), no ROUTINE", y.layout(0, 0), BAD);
    due("next(0, 0), no ROUTINE", y.next(0, 0), BAD);
  }

  private static void mostGainTogether() {
    says("the most GAIN together");
    CallMelt x = market(new int[] {3, 2, 2});
    visit(x, 4, 2, 3);
    laid(x, 1, 0, 0);
    laid(x, 2, 12, 2, 12);
    laid(x, 3, 16, 3, 10);
    laid(x, 4, 20, 4, 11, 12);
    laid(x, 5, 28, 5, 10, 12);
    laid(x, 6, 28, 5, 10, 12);
    laid(x, 7, 36, 7, 10, 11, 12);
  }

  private static void ofTheseTheLeastWeight() {
    says("of these the least WEIGHT");
    CallMelt x = market(new int[] {4, 1, 2});
    visit(x, 3, 1, 2);
    laid(x, 4, 12, 3, 11, 12);
    laid(x, 3, 12, 3, 11, 12);
    laid(x, 2, 8, 2, 12);
    CallMelt y = market(new int[] {1, 2, 3});
    visit(y, 0, 1, 0);
    laid(y, 1000, 4, 2, 11);
    CallMelt z = market(new int[] {1, 2, 3});
    laid(z, 1000, 0, 0);
  }

  private static void ofTheseTheFirst() {
    says("of these the first: whose least CALL (by numbers) is least, then the next one");
    CallMelt x = market(new int[] {1, 1, 1, 1});
    visit(x, 1, 1, 1, 1);
    laid(x, 1, 4, 1, 10);
    laid(x, 2, 8, 2, 10, 11);
    laid(x, 3, 12, 3, 10, 11, 12);
    laid(x, 4, 16, 4, 10, 11, 12, 13);
    // 10 and 13, or 11 and 12.
    CallMelt y = market(new int[] {1, 2, 2, 3});
    visit(y, 1, 2, 2, 3);
    laid(y, 4, 16, 4, 10, 13);
    laid(y, 3, 12, 3, 10, 11);
    laid(y, 5, 20, 5, 10, 11, 12);
    CallMelt z = market(new int[] {3, 2, 2, 1});
    visit(z, 3, 2, 2, 1);
    laid(z, 4, 16, 4, 10, 13);
    laid(z, 3, 12, 3, 10);
    laid(z, 2, 8, 2, 11);
    // Three of them, or two: 10, 11, 13 is ahead of 10, 12.
    CallMelt u = market(new int[] {2, 1, 2, 1});
    visit(u, 2, 1, 2, 1);
    laid(u, 4, 16, 4, 10, 11, 13);
    CallMelt v = market(new int[] {1, 2, 1, 1});
    visit(v, 1, 2, 1, 1);
    laid(v, 3, 12, 3, 10, 11);
  }

  private static void byNumbers() {
    says("some of the CALLS that are LOOKED AT: .. by numbers");
    CallMelt x = new CallMelt();
    x.routine(0);
    x.routine(0);
    x.body(1, x.number(1));
    int first = x.call(1, 0, 0, 0);
    int second = x.call(1, 0, 0, 0);
    // The second one stands first in the BODY.
    x.body(0, both(x, second, first));
    x.run(0, 0, 0, 0, 99);
    laid(x, 1, 4, 1, first);
    laid(x, 2, 8, 2, first, second);
    due("next()", x.next(0, 1), first);
    // STEP 0.
    CallMelt y = new CallMelt();
    y.routine(0);
    y.routine(0);
    due("call()", y.call(1, 0, 0, 0), 0);
    y.body(1, y.number(1));
    y.body(0, 0);
    due("next()", y.next(0, 9), 0);
    y.run(0, 0, 0, 0, 99);
    laid(y, 9, 4, 1, 0);
  }

  private static void theFirstTwelve() {
    says("the first 12 of them");
    for (int calls = 11; calls <= 13; calls++) {
      CallMelt x = new CallMelt();
      x.routine(0);
      x.routine(0);
      x.body(1, x.number(1));
      int[] call = new int[calls];
      for (int i = 0; i < calls; i++) {
        call[i] = x.call(1, 0, 0, 0);
      }
      int all = x.number(0);
      for (int i = 0; i < calls; i++) {
        // All but the last one are done only if place 0 is laid.
        int step = i == calls - 1 ? call[i] : pick(x, reach(x, x.number(0)), call[i], x.number(0));
        all = both(x, step, all);
      }
      x.body(0, all);
      x.run(0, 0, 0, 0, 99);
      due("gain()", x.gain(call[calls - 1]), 4);
      due("layout(), the last of " + calls, x.layout(0, 1000), calls <= 12 ? 1 : 0);
      due("laid(2)", x.laid(2), calls <= 12 ? call[calls - 1] : NONE);
      due("next(), the last of " + calls, x.next(0, 1), calls <= 12 ? call[calls - 1] : call[0]);
      x.lay(0, 1);
      x.run(0, 0, 0, 0, 99);
      due("layout(), " + calls, x.layout(0, 1000), Math.min(calls, 12));
      due("laid(0)", x.laid(0), calls <= 12 ? 4 * calls + 4 : 48);
      due("laid(1)", x.laid(1), Math.min(calls, 12));
      for (int i = 0; i < calls; i++) {
        due("laid(" + (2 + i) + ")", x.laid(2 + i), i < 12 ? call[i] : NONE);
      }
      due("laid(14)", x.laid(14), NONE);
    }
  }

  private static void thoseThatAreLookedAt() {
    says("those in its BODY, of ROUTINES that are not MISSING, and of others than itself");
    CallMelt x = new CallMelt();
    for (int r = 0; r < 4; r++) {
      x.routine(0);
    }
    x.body(1, x.number(1));
    int itself = x.call(0, 0, 0, 0);
    int missing = x.call(2, 0, 0, 0);
    int loose = x.call(1, 0, 0, 0);
    int elsewhere = x.call(1, 0, 0, 0);
    int fine = x.call(1, 0, 0, 0);
    x.body(3, elsewhere);
    x.body(0, pick(x, reach(x, x.number(0)), both(x, itself, missing), fine));
    x.run(0, 0, 0, 0, 99);
    x.run(3, 0, 0, 0, 99);
    x.lay(0, 1);
    due("DEEP", x.run(0, 0, 0, 0, 99), DEEP);
    due("gain(itself)", x.gain(itself), 48);
    due("gain(elsewhere)", x.gain(elsewhere), 4);
    due("gain(loose)", x.gain(loose), BAD);
    laid(x, 1000, 4, 1, fine);
    due("next()", x.next(0, 1000), fine);
    due("layout(3, 9)", x.layout(3, 9), 1);
    due("laid(2)", x.laid(2), elsewhere);
    due("layout(1, 9), no CALLS", x.layout(1, 9), 0);
    due("next(1, 9), no CALLS", x.next(1, 9), NONE);
    x.body(1, -1);
    laid(x, 1000, 0, 0);
    due("next(), MISSING", x.next(0, 1000), NONE);
    x.undo();
    x.melt(fine);
    laid(x, 1000, 0, 0);
    due("next(), MELTED", x.next(0, 1000), NONE);
  }

  private static void othersMakeRoom() {
    says("the first 12 of them");
    CallMelt x = new CallMelt();
    for (int r = 0; r < 4; r++) {
      x.routine(0);
    }
    x.body(1, x.number(1));
    int all = x.number(0);
    for (int i = 0; i < 5; i++) {
      int choice = pick(x, x.number(0), x.call(0, 0, 0, 0), x.number(0));
      all = both(x, choice, both(x, pick(x, x.number(0), x.call(2, 0, 0, 0), x.number(0)), all));
    }
    x.body(3, both(x, x.call(1, 0, 0, 0), x.call(1, 0, 0, 0)));
    x.call(1, 0, 0, 0);
    int last = x.call(1, 0, 0, 0);
    x.body(0, both(x, last, all));
    due("run()", x.run(0, 0, 0, 0, 99), 0);
    laid(x, 9, 4, 1, last);
    due("next()", x.next(0, 9), last);
  }

  // ---- laid

  private static void laidWhat() {
    says("Of the latest layout(): .. NO: there was none. BAD: below 0");
    CallMelt x = market(new int[] {1, 2});
    int[] some = {0, 1, 2, 3, 14, MOST};
    for (int what : some) {
      due("laid(" + what + "), none yet", x.laid(what), NO);
    }
    due("laid(-1), none yet", x.laid(-1), BAD);
    due("laid(least), none yet", x.laid(LEAST), BAD);
    due("layout(), refused", x.layout(0, -1), BAD);
    due("laid(0), none yet", x.laid(0), NO);
    visit(x, 1, 1);
    due("next()", x.next(0, 9), 10);
    due("laid(0), none yet", x.laid(0), NO);
    laid(x, 9, 8, 3, 10, 11);
    due("laid(-1)", x.laid(-1), BAD);
    due("laid(least)", x.laid(LEAST), BAD);
    due("laid(14)", x.laid(14), NONE);
    due("laid(most)", x.laid(MOST), NONE);
    due("layout(), refused", x.layout(0, 1001), BAD);
    due("layout(), refused", x.layout(9, 1), BAD);
    due("laid(0), of the latest one", x.laid(0), 8);
    laid(x, 2, 4, 1, 10);
    due("laid(3), of the one before", x.laid(3), NONE);
    laid(x, 0, 0, 0);
    due("layout() of another", x.layout(1, 9), 0);
    due("laid(0)", x.laid(0), 0);
  }

  // ---- next

  private static void greatestFraction() {
    says("that with the greatest GAIN to WEIGHT (a fraction; WEIGHTS are above 0)");
    CallMelt x = market(new int[] {3, 2});
    visit(x, 3, 2);
    due("12 / 3 and 8 / 2", x.next(0, 9), 10);
    visit(x, 0, 1);
    due("12 / 3 and 12 / 2", x.next(0, 9), 11);
    visit(x, 1, 0);
    due("16 / 3 and 12 / 2", x.next(0, 9), 11);
    visit(x, 1, 0);
    due("20 / 3 and 12 / 2", x.next(0, 9), 10);
    due("20 / 3 is beyond 2", x.next(0, 2), 11);
    CallMelt y = market(new int[] {4, 3, 4});
    visit(y, 1, 1, 0);
    due("4 / 4 and 4 / 3", y.next(0, 9), 11);
    visit(y, 0, 0, 2);
    due("4 / 4, 4 / 3 and 8 / 4", y.next(0, 9), 12);
  }

  private static void ofLikeOnesTheLeast() {
    says("of like ones the least number; NONE: none");
    CallMelt x = market(new int[] {4, 2, 1});
    due("no GAIN", x.next(0, 9), 10);
    due("no GAIN, within 3", x.next(0, 3), 11);
    due("no GAIN, within 1", x.next(0, 1), 12);
    due("within 0", x.next(0, 0), NONE);
    visit(x, 4, 2, 1);
    due("16 / 4, 8 / 2 and 4 / 1", x.next(0, 9), 10);
    due("8 / 2 and 4 / 1", x.next(0, 3), 11);
    due("4 / 1", x.next(0, 1), 12);
    visit(x, 0, 0, 1);
    due("8 / 1", x.next(0, 9), 12);
  }

  private static void aWeightWithinTheBudget() {
    says("with a WEIGHT within a budget");
    for (int weight = 1; weight <= 4; weight++) {
      CallMelt x = market(new int[] {weight});
      due("one less", x.next(0, weight - 1), NONE);
      due("the same", x.next(0, weight), 10);
      due("one more", x.next(0, weight + 1), 10);
      visit(x, 1);
      due("layout(), one less", x.layout(0, weight - 1), 0);
      due("layout(), the same", x.layout(0, weight), 1);
    }
  }
}
