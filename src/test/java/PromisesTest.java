/** For each promise of the document: ordinary inputs, the edges that it names, wrong inputs. */
public final class PromisesTest extends Tests {
  public static void main(String[] args) throws ReflectiveOperationException {
    runAll(PromisesTest.class);
  }

  private static void due(int promise, String what, int got, int want) {
    says("promise " + promise);
    due(what, got, want);
  }

  // ---- trees

  /** A routine 0 without BODY and a routine 1: its one NAME and 1 more. */
  private static CallMelt withNextOf() {
    CallMelt x = new CallMelt();
    x.routine(0);
    x.routine(1);
    x.body(1, x.act(0, x.name(0), x.number(1)));
    return x;
  }

  // ---- steps, routines

  private static void promise1() {
    CallMelt x = new CallMelt();
    for (int what = 0; what < 6; what++) {
      due(1, "count(" + what + ")", x.count(what), 0);
    }
    for (int i = 0; i < 8; i++) {
      due(1, "row(" + i + ")", x.row(i), 0);
    }
    due(1, "told(0, 0)", x.told(0, 0), STRANGE);
    due(1, "about(0, 0)", x.about(0, 0), BAD);
    x.lay(3, 5);
    x.number(1);
    CallMelt other = new CallMelt();
    due(1, "row(3) of another", other.row(3), 0);
    due(1, "count(0) of another", other.count(0), 0);
  }

  private static void promise2() {
    CallMelt x = new CallMelt();
    due(2, "number(0)", x.number(0), 0);
    due(2, "number(least)", x.number(LEAST), 1);
    due(2, "number(most)", x.number(MOST), 2);
    due(2, "told(1, 1)", x.told(1, 1), LEAST);
    due(2, "told(2, 1)", x.told(2, 1), MOST);
    due(2, "told(2, 0)", x.told(2, 0), 0);
    due(2, "told(2, 2)", x.told(2, 2), NONE);
    fill(x, 599);
    due(2, "number() of a 600th", x.number(0), 599);
    due(2, "number() of a 601st", x.number(0), FULL);
    due(2, "count(0)", x.count(0), 600);
  }

  private static void promise3() {
    CallMelt x = new CallMelt();
    due(3, "name(0)", x.name(0), 0);
    due(3, "name(39)", x.name(39), 1);
    due(3, "name(40)", x.name(40), BAD);
    due(3, "name(-1)", x.name(-1), BAD);
    due(3, "name(least)", x.name(LEAST), BAD);
    due(3, "told(1, 0)", x.told(1, 0), 1);
    due(3, "told(1, 1)", x.told(1, 1), 39);
    fill(x, 599);
    due(3, "name() of a 600th", x.name(0), 599);
    due(3, "name() of a 601st", x.name(0), FULL);
    due(3, "name(40), of a 601st", x.name(40), BAD);
  }

  private static void promise4() {
    CallMelt x = new CallMelt();
    int a = x.number(1);
    int b = x.number(2);
    due(4, "act(-1, ..)", x.act(-1, a, b), BAD);
    due(4, "act(6, ..)", x.act(6, a, b), BAD);
    due(4, "act(0, a, a)", x.act(0, a, a), BAD);
    due(4, "act(0, a, 2)", x.act(0, a, 2), BAD);
    due(4, "act(0, -1, b)", x.act(0, -1, b), BAD);
    due(4, "act(5, a, b)", x.act(5, a, b), 2);
    due(4, "told(2, 0)", x.told(2, 0), 2);
    due(4, "told(2, 1)", x.told(2, 1), 5);
    due(4, "told(2, 2)", x.told(2, 2), a);
    due(4, "told(2, 3)", x.told(2, 3), b);
    due(4, "told(2, 4)", x.told(2, 4), NONE);
    due(4, "told(a, 5)", x.told(a, 5), 2);
    int c = x.number(3);
    due(4, "act() of a part", x.act(0, a, c), BAD);
    due(4, "act() of a part, second", x.act(0, c, b), BAD);
    int r = x.routine(0);
    x.body(r, 2);
    due(4, "act() of a body", x.act(0, 2, c), BAD);
    due(4, "count(0)", x.count(0), 4);
    CallMelt y = new CallMelt();
    int h = high(y, 39);
    due(4, "act() 40 HIGH", y.act(0, y.number(1), h), 40);
    due(4, "act() 41 HIGH", y.act(0, 40, y.number(1)), FULL);
    due(4, "act() 41 HIGH, second", y.act(0, 41, 40), FULL);
    due(4, "act(6) 41 HIGH", y.act(6, 41, 40), BAD);
    due(4, "told(40, 5)", y.told(40, 5), NONE);
  }

  private static void promise5() {
    CallMelt x = new CallMelt();
    int a = x.number(1);
    int b = x.number(2);
    int c = x.number(3);
    int[] none = {-1, 0, 1, 2, 4, 6, 11, 12, LEAST, MOST};
    for (int kind : none) {
      due(5, "join(" + kind + ")", x.join(kind, a, b, c), BAD);
    }
    due(5, "join(3) of one twice", x.join(PICK, a, b, a), BAD);
    due(5, "join(3) of one twice", x.join(PICK, a, a, c), BAD);
    due(5, "join(3) of one twice", x.join(PICK, a, b, b), BAD);
    due(5, "join(3) of none", x.join(PICK, 7, b, c), BAD);
    due(5, "join(3) of none", x.join(PICK, a, b, 3), BAD);
    due(5, "join(5) of one twice", x.join(BOTH, a, b, b), BAD);
    due(5, "join(8) of none", x.join(WHILE, a, -1, b), BAD);
    due(5, "join(10) of none", x.join(LAY, a, b, 99), BAD);
    due(5, "join(7) of none", x.join(LEAVE, a, 99, b), BAD);
    due(5, "join(9) of none", x.join(REACH, a, -4, b), BAD);
    due(5, "join(3)", x.join(PICK, b, c, a), 3);
    due(5, "told(3, 2)", x.told(3, 2), b);
    due(5, "told(3, 3)", x.told(3, 3), c);
    due(5, "told(3, 4)", x.told(3, 4), a);
    due(5, "told(3, 1)", x.told(3, 1), 0);
    due(5, "join(7), others not looked at", x.join(LEAVE, -9, 3, a), 4);
    due(5, "told(4, 0)", x.told(4, 0), 7);
    due(5, "told(4, 2)", x.told(4, 2), 3);
    due(5, "told(4, 3)", x.told(4, 3), NONE);
    due(5, "join(9), others not looked at", x.join(REACH, 4, 4, 4), 5);
    int d = x.number(4);
    due(5, "join(5), t not looked at", x.join(BOTH, d, d, 5), 7);
    due(5, "told(7, 2)", x.told(7, 2), d);
    due(5, "told(7, 3)", x.told(7, 3), 5);
    due(5, "join(8)", x.join(WHILE, 999, 7, x.number(0)), 9);
    due(5, "join(10)", x.join(LAY, -1, 9, x.number(0)), 11);
    due(5, "told(11, 0)", x.told(11, 0), 10);
    due(5, "told(9, 0)", x.told(9, 0), 8);
    CallMelt y = new CallMelt();
    int h = high(y, 40);
    due(5, "join(7) 41 HIGH", y.join(LEAVE, 0, h, 0), FULL);
    due(5, "join(3) 41 HIGH", y.join(PICK, y.number(1), y.number(1), h), FULL);
    fill(y, 600);
    due(5, "join(5) of a 601st", y.join(BOTH, 0, 598, 599), FULL);
    due(5, "join(5) of one twice, of a 601st", y.join(BOTH, 0, 598, 598), BAD);
  }

  private static void promise6() {
    CallMelt x = new CallMelt();
    int a = x.number(1);
    due(6, "set(40)", x.set(40, a), BAD);
    due(6, "set(-1)", x.set(-1, a), BAD);
    due(6, "set() of none", x.set(0, 1), BAD);
    due(6, "set(39)", x.set(39, a), 1);
    due(6, "told(1, 0)", x.told(1, 0), 4);
    due(6, "told(1, 1)", x.told(1, 1), 39);
    due(6, "set() of a part", x.set(0, a), BAD);
    int h = high(x, 40);
    due(6, "told(h, 8)", x.told(h, 8), 40);
    due(6, "set() 41 HIGH", x.set(0, h), FULL);
    fill(x, 600);
    due(6, "set() of a 601st", x.set(0, 599), FULL);
  }

  private static void promise7() {
    CallMelt x = new CallMelt();
    due(7, "call() of no routine", x.call(0, 0, 0, 0), BAD);
    for (int params = 0; params <= 3; params++) {
      x.routine(params);
    }
    due(7, "call(0), others not looked at", x.call(0, -1, 77, -1), 0);
    due(7, "told(0, 0)", x.told(0, 0), 6);
    due(7, "told(0, 1)", x.told(0, 1), 0);
    due(7, "told(0, 2)", x.told(0, 2), NONE);
    due(7, "call(4)", x.call(4, 0, 0, 0), BAD);
    due(7, "call(-1)", x.call(-1, 0, 0, 0), BAD);
    due(7, "call(1) of none", x.call(1, 9, 0, 0), BAD);
    due(7, "call(1)", x.call(1, 0, 0, 0), 1);
    int a = x.number(1);
    int b = x.number(2);
    due(7, "call(2) of one twice", x.call(2, a, a, 0), BAD);
    due(7, "call(3) of one twice", x.call(3, a, b, a), BAD);
    due(7, "call(2) of a part", x.call(2, a, 0, 0), BAD);
    due(7, "call(3)", x.call(3, b, 1, a), 4);
    due(7, "told(4, 1)", x.told(4, 1), 3);
    due(7, "told(4, 2)", x.told(4, 2), b);
    due(7, "told(4, 3)", x.told(4, 3), 1);
    due(7, "told(4, 4)", x.told(4, 4), a);
    due(7, "call(1) 41 HIGH", x.call(1, high(x, 40), 0, 0), FULL);
    fill(x, 600);
    due(7, "call(0) of a 601st", x.call(0, 0, 0, 0), FULL);
  }

  private static void promise8() {
    CallMelt x = new CallMelt();
    due(8, "routine(-1)", x.routine(-1), BAD);
    due(8, "routine(4)", x.routine(4), BAD);
    for (int r = 0; r < 10; r++) {
      due(8, "routine()", x.routine(r % 4), r);
      due(8, "about(r, 0)", x.about(r, 0), r % 4);
      due(8, "about(r, 1)", x.about(r, 1), NONE);
    }
    due(8, "routine() of an 11th", x.routine(0), FULL);
    due(8, "routine(4) of an 11th", x.routine(4), BAD);
    due(8, "count(3)", x.count(3), 10);
  }

  private static void promise9() {
    CallMelt x = new CallMelt();
    int r = x.routine(2);
    int a = x.name(1);
    due(9, "body(1, a)", x.body(1, a), BAD);
    due(9, "body(-1, a)", x.body(-1, a), BAD);
    due(9, "body(r, -2)", x.body(r, -2), BAD);
    due(9, "body(r, 1)", x.body(r, 1), BAD);
    due(9, "body(r, a): the PARAMS are more", x.body(r, a), 2);
    int s = x.set(7, x.name(3));
    due(9, "body(r, s): SET counts", x.body(r, s), 8);
    due(9, "told(a, 6): LOOSE again", x.told(a, 6), NONE);
    due(9, "count(2)", x.count(2), 1);
    int other = x.routine(0);
    due(9, "body() of a body", x.body(other, s), BAD);
    due(9, "body() of its own body", x.body(r, s), BAD);
    due(9, "body() of a part", x.body(other, 1), BAD);
    due(9, "body(other, a)", x.body(other, a), 2);
    due(9, "body(r, -1): MISSING", x.body(r, -1), 2);
    due(9, "about(r, 1)", x.about(r, 1), NONE);
    due(9, "body(r, -1): MISSING already", x.body(r, -1), 2);
    due(9, "body(other, s)", x.body(other, s), 8);
    due(9, "body(other, -1)", x.body(other, -1), 0);
    int n = x.name(39);
    due(9, "body(r, n)", x.body(r, n), 40);
  }

  private static void promise10() {
    CallMelt x = withNextOf();
    int seven = x.number(7);
    int call = x.call(1, seven, 0, 0);
    int set = x.set(5, x.name(2));
    int nought = x.number(0);
    int all = pick(x, call, set, nought);
    due(10, "told(all, 6), LOOSE", x.told(all, 6), NONE);
    x.body(0, all);
    int[] want = {3, 0, call, set, nought, NONE, 0, 0, 6};
    for (int what = 0; what < 9; what++) {
      due(10, "told(all, " + what + ")", x.told(all, what), want[what]);
    }
    due(10, "told(seven, 5)", x.told(seven, 5), call);
    due(10, "told(seven, 6)", x.told(seven, 6), 0);
    due(10, "told(0, 6)", x.told(0, 6), 1);
    due(10, "told(call, 1)", x.told(call, 1), 1);
    due(10, "told(call, 8)", x.told(call, 8), 2);
    due(10, "told(all, -1)", x.told(all, -1), STRANGE);
    due(10, "told(all, 9)", x.told(all, 9), STRANGE);
    due(10, "told(-1, 0)", x.told(-1, 0), STRANGE);
    due(10, "told(all + 1, 0)", x.told(all + 1, 0), STRANGE);
    due(10, "told(most, most)", x.told(MOST, MOST), STRANGE);
    x.run(0, 0, 0, 0, 100);
    due(10, "told(call, 7)", x.told(call, 7), 1);
    x.melt(call);
    int[] gone = {-1, 0, NONE, NONE, NONE, NONE, NONE, 0, 0};
    for (int what = 0; what < 9; what++) {
      due(10, "told() of one that is GONE, " + what, x.told(call, what), gone[what]);
    }
    due(10, "told(gone, 9)", x.told(call, 9), STRANGE);
  }

  private static void promise11() {
    CallMelt x = withNextOf();
    due(11, "about(0, 2)", x.about(0, 2), 0);
    due(11, "about(0, 1)", x.about(0, 1), NONE);
    due(11, "about(1, 0)", x.about(1, 0), 1);
    due(11, "about(1, 1)", x.about(1, 1), 2);
    due(11, "about(1, 2)", x.about(1, 2), 3);
    due(11, "about(1, 3)", x.about(1, 3), 1);
    int inner = x.call(1, x.number(1), 0, 0);
    int outer = x.call(1, inner, 0, 0);
    int own = x.call(0, 0, 0, 0);
    int all = both(x, x.set(9, own), outer);
    due(11, "about(1, 5), LOOSE", x.about(1, 5), 0);
    x.body(0, all);
    due(11, "about(1, 5)", x.about(1, 5), 2);
    due(11, "about(0, 5)", x.about(0, 5), 1);
    due(11, "about(0, 4)", x.about(0, 4), 3);
    due(11, "about(1, 4)", x.about(1, 4), 0);
    due(11, "about(0, 3)", x.about(0, 3), 10);
    due(11, "about(0, 2)", x.about(0, 2), 6);
    due(11, "about(0, 6)", x.about(0, 6), BAD);
    due(11, "about(0, -1)", x.about(0, -1), BAD);
    due(11, "about(2, 0)", x.about(2, 0), BAD);
    due(11, "about(-1, 0)", x.about(-1, 0), BAD);
  }

  private static void promise12() {
    CallMelt x = new CallMelt();
    int one = x.act(1, x.name(3), x.set(2, x.number(5)));
    int two = x.act(1, x.name(3), x.set(2, x.number(5)));
    int three = x.act(1, x.name(3), x.set(2, x.number(6)));
    int four = x.act(1, x.set(2, x.number(5)), x.name(3));
    int five = x.act(0, x.name(3), x.set(2, x.number(5)));
    int six = x.act(1, x.name(3), x.set(2, x.name(5)));
    due(12, "same(one, two)", x.same(one, two), 1);
    due(12, "same(one, one)", x.same(one, one), 1);
    due(12, "same(): a number", x.same(one, three), 0);
    due(12, "same(): the order", x.same(one, four), 0);
    due(12, "same(): the op", x.same(one, five), 0);
    due(12, "same(): a kind", x.same(one, six), 0);
    due(12, "same(): of parts", x.same(x.told(one, 2), x.told(two, 2)), 1);
    int left = both(x, both(x, x.number(1), x.number(1)), x.number(1));
    int right = both(x, x.number(1), both(x, x.number(1), x.number(1)));
    due(12, "same(): the shape", x.same(left, right), 0);
    due(12, "same(-1, one)", x.same(-1, one), BAD);
    due(12, "same(one, most)", x.same(one, MOST), BAD);
    int r = x.routine(0);
    x.body(r, both(x, x.number(1), x.number(2)));
    int gone = x.about(r, 1);
    x.ahead(r);
    due(12, "same() of one that is GONE", x.same(gone, gone), BAD);
  }

  // ---- runs

  private static void promise13Values() {
    due(13, "sum", ranAct(0, MOST, 1), LEAST);
    due(13, "difference", ranAct(1, LEAST, 1), MOST);
    due(13, "product", ranAct(2, 65536, 65537), 65536);
    due(13, "quotient", ranAct(3, -7, 2), -3);
    due(13, "quotient", ranAct(3, 7, -2), -3);
    due(13, "quotient of the least by -1", ranAct(3, LEAST, -1), LEAST);
    due(13, "below", ranAct(4, LEAST, MOST), 1);
    due(13, "below, alike", ranAct(4, 5, 5), 0);
    due(13, "below, above", ranAct(4, 6, 5), 0);
    due(13, "the same", ranAct(5, -5, -5), 1);
    due(13, "not the same", ranAct(5, -5, 5), 0);
    CallMelt x = new CallMelt();
    int r = x.routine(3);
    // NAME 3 is 0 in each call; SET answers its value; PICK does one alone.
    int set = x.set(3, x.act(0, x.name(3), x.name(2)));
    x.body(r, pick(x, x.name(0), set, x.set(4, x.name(1))));
    x.run(r, 1, 10, 20, 9);
    due(13, "PICK, not 0", x.ran(0), 20);
    x.run(r, 1, 10, 20, 9);
    due(13, "all other NAMES are 0", x.ran(0), 20);
    x.run(r, 0, 10, 20, 9);
    due(13, "PICK, 0", x.ran(0), 10);
    due(13, "COUNT of the PART not done", x.told(set, 7), 2);
    int w = loop(x, x.name(0), x.set(0, x.act(1, x.name(0), x.number(1))));
    x.body(r, w);
    x.run(r, 3, 0, 0, 99);
    due(13, "WHILE's value", x.ran(0), 0);
    due(13, "WHILE's cost: 4 t, 3 SET, 3 ACT", x.ran(1), 10);
    due(13, "WHILE's COUNT", x.told(w, 7), 1);
    due(13, "t's COUNT", x.told(x.told(w, 2), 7), 4);
    x.body(r, lays(x, x.number(7), x.name(1)));
    x.run(r, 3, 44, 0, 99);
    due(13, "LAY's value", x.ran(0), 44);
    due(13, "row(7)", x.row(7), 44);
    x.body(r, reach(x, x.name(0)));
    x.run(r, 7, 0, 0, 99);
    due(13, "REACH's value", x.ran(0), 44);
    x.body(r, both(x, x.set(0, x.number(1)), x.name(0)));
    x.run(r, 7, 0, 0, 99);
    due(13, "BOTH's value", x.ran(0), 1);
  }

  private static void promise13Cost() {
    CallMelt x = withNextOf();
    int first = x.call(1, x.number(4), 0, 0);
    int second = x.call(1, first, 0, 0);
    x.body(0, second);
    due(13, "run", x.run(0, 0, 0, 0, 12), 0);
    due(13, "ran(0)", x.ran(0), 6);
    due(13, "ran(1): two CALLS of 5, two ACTS", x.ran(1), 12);
    due(13, "ran(2)", x.ran(2), 2);
    due(13, "run, one FUEL less", x.run(0, 0, 0, 0, 11), 4);
    due(13, "ran(3): the second ACT", x.ran(3), 2);
    due(13, "ran(1)", x.ran(1), 11);
    due(13, "ran(0)", x.ran(0), 0);
    due(13, "run, less yet", x.run(0, 0, 0, 0, 10), 4);
    due(13, "run, less than the second CALL", x.run(0, 0, 0, 0, 10 - 1), 4);
    due(13, "ran(3): the CALL", x.ran(3), second);
    due(13, "ran(1): what was paid alone", x.ran(1), 6);
    due(13, "COUNT of the first CALL", x.told(first, 7), 4);
    due(13, "COUNT of the second CALL", x.told(second, 7), 2);
    due(13, "run without FUEL", x.run(0, 0, 0, 0, 0), 4);
    due(13, "COUNT of the CALL's PART", x.told(3, 7), 5);
    // A ROUTINE's NAMES are paid for by the CALL, unused ones too.
    x.body(1, -1);
    x.body(1, x.name(9));
    x.run(0, 0, 0, 0, 99);
    due(13, "ran(1): two CALLS of 4 and 10 NAMES", x.ran(1), 28);
  }

  private static void promise13Leaves() {
    CallMelt x = withNextOf();
    // LEAVE in a CALL's PART ends the call in which it stands, not the one that is called.
    int part = leave(x, x.number(5));
    int call = x.call(1, part, 0, 0);
    x.body(0, x.act(0, x.number(100), call));
    due(13, "run", x.run(0, 0, 0, 0, 99), 0);
    due(13, "LEAVE ends the call", x.ran(0), 5);
    due(13, "COUNT of what was not done", x.told(call, 7), 0);
    // LEAVE in a loop, in a call, whose caller goes on.
    x.body(1, loop(x, x.number(1), pick(x, x.act(4, x.number(9), x.name(0)),
        leave(x, x.name(0)), x.set(0, x.act(0, x.name(0), x.name(0))))));
    int seven = x.call(1, x.number(7), 0, 0);
    x.body(0, x.act(0, x.number(100), seven));
    due(13, "run", x.run(0, 0, 0, 0, 99), 0);
    due(13, "LEAVE ends one call", x.ran(0), 114);
    x.melt(seven);
    due(13, "run, MELTED", x.run(0, 0, 0, 0, 99), 0);
    due(13, "LEAVE ends a BLOCK", x.ran(0), 114);
    due(13, "ran(2)", x.ran(2), 1);
  }

  private static void promise13Refused() {
    CallMelt x = new CallMelt();
    due(13, "run(0)", x.run(0, 0, 0, 0, 9), BAD);
    int r = x.routine(1);
    due(13, "run of a MISSING one", x.run(r, 1, 2, 3, 9), 3);
    due(13, "ran(3)", x.ran(3), NONE);
    due(13, "ran(1)", x.ran(1), 0);
    due(13, "run(-1)", x.run(-1, 0, 0, 0, 9), BAD);
    due(13, "run(1)", x.run(1, 0, 0, 0, 9), BAD);
    due(13, "FUEL -1", x.run(r, 0, 0, 0, -1), BAD);
    due(13, "FUEL 2001", x.run(r, 0, 0, 0, 2001), BAD);
    int act = x.act(3, x.number(8), x.name(0));
    x.body(r, act);
    due(13, "NOUGHT", x.run(r, 0, 0, 0, 9), 1);
    due(13, "ran(3)", x.ran(3), act);
    due(13, "ran(1): paid ahead", x.ran(1), 1);
    due(13, "COUNT", x.told(act, 7), 1);
    int reach = reach(x, x.name(0));
    x.body(r, reach);
    due(13, "PLACE 8", x.run(r, 8, 0, 0, 9), 2);
    due(13, "ran(3)", x.ran(3), reach);
    due(13, "PLACE -1", x.run(r, -1, 0, 0, 9), 2);
    due(13, "PLACE 7", x.run(r, 7, 0, 0, 9), 0);
    // y is done ahead of the look at the place; what was laid stays.
    int outer = lays(x, x.number(8), lays(x, x.number(0), x.number(6)));
    x.body(r, outer);
    due(13, "LAY, PLACE 8", x.run(r, 0, 0, 0, 9), 2);
    due(13, "ran(3)", x.ran(3), outer);
    due(13, "row(0)", x.row(0), 6);
    int none = x.routine(1);
    int call = x.call(none, x.set(3, x.number(1)), 0, 0);
    x.body(r, call);
    due(13, "MISSING ahead of FUEL", x.run(r, 0, 0, 0, 1), 3);
    due(13, "ran(3)", x.ran(3), call);
    due(13, "FUEL for the CALL's PART", x.run(r, 0, 0, 0, 0), 4);
    due(13, "COUNT of the CALL", x.told(call, 7), 0);
    x.body(none, -1);
    int again = x.call(r, x.act(0, x.name(0), x.number(1)), 0, 0);
    x.body(r, again);
    due(13, "DEEP", x.run(r, 0, 0, 0, 2000), 5);
    due(13, "ran(3)", x.ran(3), again);
    due(13, "ran(2)", x.ran(2), 12);
    due(13, "ran(1): 12 CALLS of 5, 12 ACTS", x.ran(1), 72);
    due(13, "COUNT, the 12th was paid", x.told(again, 7), 12);
    due(13, "FUEL ahead of DEEP", x.run(r, 0, 0, 0, 71), 4);
    due(13, "COUNT", x.told(again, 7), 23);
    int deeper = x.call(r, x.act(0, x.name(0), x.number(1)), 0, 0);
    x.body(r, pick(x, x.act(4, x.name(0), x.number(11)), deeper, x.name(0)));
    due(13, "12 calls", x.run(r, 0, 0, 0, 2000), 0);
    due(13, "ran(0)", x.ran(0), 11);
    due(13, "ran(2)", x.ran(2), 12);
    due(13, "13 calls", x.run(r, -1, 0, 0, 2000), 5);
  }

  private static void promise13Full() {
    CallMelt x = new CallMelt();
    int r = x.routine(0);
    int w = loop(x, x.number(1), x.number(1));
    x.body(r, w);
    for (int i = 0; i < 29; i++) {
      due(13, "run " + i, x.run(r, 0, 0, 0, 2000), 4);
      due(13, "ran(1)", x.ran(1), 2000);
      due(13, "ran(3)", x.ran(3), w);
    }
    due(13, "to 59999", x.run(r, 0, 0, 0, 1999), 4);
    due(13, "beyond 60000", x.run(r, 0, 0, 0, 2000), 4);
    due(13, "COUNT", x.told(w, 7), 31);
    due(13, "run, all FUEL taken", x.run(r, 0, 0, 0, 1), FULL);
    due(13, "run without FUEL", x.run(r, 0, 0, 0, 0), FULL);
    due(13, "run(1), all FUEL taken", x.run(1, 0, 0, 0, 1), BAD);
    due(13, "ran(1) of the latest one", x.ran(1), 2000);
    CallMelt y = new CallMelt();
    y.routine(0);
    y.body(0, loop(y, y.number(1), y.number(1)));
    for (int i = 0; i < 30; i++) {
      due(13, "run " + i, y.run(0, 0, 0, 0, i == 0 ? 1999 : 2000), 4);
    }
    due(13, "at 59999", y.run(0, 0, 0, 0, 1), 4);
    due(13, "at 60000", y.run(0, 0, 0, 0, 1), FULL);
  }

  private static void promise14() {
    CallMelt x = new CallMelt();
    for (int what = 0; what < 4; what++) {
      due(14, "ran(" + what + ") before one", x.ran(what), 0);
    }
    due(14, "ran(-1)", x.ran(-1), STRANGE);
    due(14, "ran(4)", x.ran(4), STRANGE);
    int r = x.routine(1);
    x.body(r, x.act(3, x.number(6), x.name(0)));
    x.run(5, 0, 0, 0, 0);
    due(14, "ran(3) behind a BAD one", x.ran(3), 0);
    x.run(r, 2, 0, 0, 50);
    int[] want = {3, 1, 1, NONE};
    for (int what = 0; what < 4; what++) {
      due(14, "ran(" + what + ")", x.ran(what), want[what]);
    }
    x.run(r, 2, 0, 0, 5000);
    due(14, "ran(0) behind a BAD one", x.ran(0), 3);
    x.run(r, 0, 0, 0, 50);
    int[] refused = {0, 1, 1, x.about(r, 1)};
    for (int what = 0; what < 4; what++) {
      due(14, "ran(" + what + "), REFUSED", x.ran(what), refused[what]);
    }
    x.undo();
    due(14, "ran(1) behind undo()", x.ran(1), 1);
  }

  private static void promise15And16() {
    CallMelt x = new CallMelt();
    due(16, "lay(-1)", x.lay(-1, 3), BAD);
    due(16, "lay(8)", x.lay(8, 3), BAD);
    due(16, "lay(least)", x.lay(LEAST, 3), BAD);
    for (int i = 0; i < 8; i++) {
      due(16, "lay(" + i + ")", x.lay(i, LEAST + i), 1);
    }
    for (int i = 0; i < 8; i++) {
      due(15, "row(" + i + ")", x.row(i), LEAST + i);
    }
    due(15, "row(-1)", x.row(-1), 0);
    due(15, "row(8)", x.row(8), 0);
    due(15, "row(most)", x.row(MOST), 0);
    int r = x.routine(0);
    x.body(r, reach(x, x.number(2)));
    x.run(r, 0, 0, 0, 9);
    due(16, "a RUN has THE ROW", x.ran(0), LEAST + 2);
    x.undo();
    due(16, "row(2) behind undo()", x.row(2), LEAST + 2);
  }

  private static void promise17() {
    CallMelt x = withNextOf();
    int call = x.call(1, x.number(1), 0, 0);
    x.body(0, call);
    x.run(0, 0, 0, 0, 99);
    x.run(0, 0, 0, 0, 3);
    due(17, "told(call, 7)", x.told(call, 7), 1);
    due(17, "COUNT of the NUMBER", x.told(call - 1, 7), 2);
    due(17, "clearCounts()", x.clearCounts(), 0);
    for (int step = 0; step <= call; step++) {
      due(17, "told(" + step + ", 7)", x.told(step, 7), 0);
    }
    due(17, "gain(call)", x.gain(call), 0);
    due(17, "ran(1)", x.ran(1), 0);
    x.run(0, 0, 0, 0, 99);
    due(17, "told(call, 7), begun anew", x.told(call, 7), 1);
  }

  // ---- melting

  /** Routine 0 with 5 NAMES calls routine 1 (2 PARAMS, 4 NAMES), under an ACT. */
  private static CallMelt toMelt() {
    CallMelt x = new CallMelt();
    x.routine(1);
    x.routine(2);
    int set = x.set(3, x.act(0, x.name(0), x.name(1)));
    x.body(1, both(x, set, x.act(2, x.name(3), x.name(2))));
    int call = x.call(1, x.name(0), x.number(6), 0);
    x.body(0, x.act(1, x.set(4, x.number(1)), call));
    return x;
  }

  private static void shape(CallMelt x, int step, int kind, int number, int first, int second) {
    String at = "told(" + step + ", ";
    due(18, at + "0)", x.told(step, 0), kind);
    due(18, at + "1)", x.told(step, 1), number);
    due(18, at + "2)", x.told(step, 2), first);
    due(18, at + "3)", x.told(step, 3), second);
    due(18, at + "4)", x.told(step, 4), NONE);
    due(18, at + "6)", x.told(step, 6), 0);
    due(18, at + "2), 5", first == NONE ? step : x.told(first, 5), step);
    due(18, at + "3), 5", second == NONE ? step : x.told(second, 5), step);
  }

  private static void promise18Shape() {
    CallMelt x = toMelt();
    // 0 .. 7 are the BODY of 1, 8 and 9 the PARTS of CALL 10, 11 and 12 SET 4, 13 the ACT.
    due(18, "about(0, 3)", x.about(0, 3), 5);
    x.run(0, 3, 0, 0, 99);
    due(18, "melt(10)", x.melt(10), 14);
    due(18, "told(13, 3)", x.told(13, 3), 14);
    due(18, "told(14, 5)", x.told(14, 5), 13);
    shape(x, 14, 5, 0, 15, 16);
    shape(x, 15, 4, 5, 8, NONE);
    shape(x, 16, 5, 0, 17, 18);
    shape(x, 17, 4, 6, 9, NONE);
    shape(x, 18, 5, 0, 19, 21);
    shape(x, 19, 4, 7, 20, NONE);
    shape(x, 20, 0, 0, NONE, NONE);
    shape(x, 21, 5, 0, 22, 24);
    shape(x, 22, 4, 8, 23, NONE);
    shape(x, 23, 0, 0, NONE, NONE);
    shape(x, 24, 11, 0, 25, NONE);
    shape(x, 25, 5, 0, 26, 30);
    shape(x, 26, 4, 8, 27, NONE);
    shape(x, 27, 2, 0, 28, 29);
    shape(x, 28, 1, 5, NONE, NONE);
    shape(x, 29, 1, 6, NONE, NONE);
    shape(x, 30, 2, 2, 31, 32);
    shape(x, 31, 1, 8, NONE, NONE);
    shape(x, 32, 1, 7, NONE, NONE);
    due(18, "count(0)", x.count(0), 33);
    due(18, "count(1)", x.count(1), 1);
    due(18, "count(2)", x.count(2), 0);
    due(18, "told(10, 0)", x.told(10, 0), -1);
    due(18, "told(8, 7): it stays the STEP that it is", x.told(8, 7), 1);
    due(18, "told(28, 7)", x.told(28, 7), 0);
    due(18, "about(0, 3)", x.about(0, 3), 9);
    due(18, "about(1, 2)", x.about(1, 2), 8);
    due(18, "about(1, 1)", x.about(1, 1), 7);
    due(18, "run", x.run(0, 3, 0, 0, 99), 0);
    due(18, "ran(0)", x.ran(0), 1);
    due(18, "melt(10) again", x.melt(10), BAD);
    // What the BODY calls is written off as CALLS; without NAMES the BLOCK is outermost.
    int none = x.routine(0);
    x.body(none, x.call(1, x.number(3), x.number(4), 0));
    int top = x.call(none, 0, 0, 0);
    int caller = x.routine(0);
    x.body(caller, top);
    due(18, "melt() of a BODY", x.melt(top), 37);
    due(18, "about(caller, 1)", x.about(caller, 1), 37);
    due(18, "told(37, 0)", x.told(37, 0), 11);
    due(18, "told(38, 0)", x.told(38, 0), 6);
    due(18, "told(38, 1)", x.told(38, 1), 1);
    due(18, "told(38, 3)", x.told(38, 3), 40);
    due(18, "same()", x.same(38, x.about(none, 1)), 1);
  }

  private static void promise18OfItself() {
    CallMelt x = new CallMelt();
    int r = x.routine(1);
    int less = x.act(1, x.name(0), x.number(1));
    int call = x.call(r, less, 0, 0);
    int all = pick(x, x.name(0), x.act(0, x.number(10), call), x.number(5));
    x.body(r, all);
    x.run(r, 4, 0, 0, 200);
    due(18, "ran(0)", x.ran(0), 45);
    int made = x.count(0);
    due(18, "weight()", x.weight(call), 11);
    due(18, "melt() of a ROUTINE in itself", x.melt(call), made);
    due(18, "count(0)", x.count(0), made + 12);
    due(18, "about(r, 2)", x.about(r, 2), 20);
    due(18, "about(r, 3)", x.about(r, 3), 2);
    due(18, "about(r, 4): the CALL's twin", x.about(r, 4), 1);
    due(18, "told(less, 5)", x.told(less, 5), made + 1);
    due(18, "told(twin's PART, 2)", x.told(x.told(made + 7, 2), 0), 2);
    x.run(r, 4, 0, 0, 200);
    due(18, "ran(0), MELTED", x.ran(0), 45);
    due(18, "ran(2), MELTED", x.ran(2), 3);
  }

  private static void promise18Refused() {
    CallMelt x = withNextOf();
    int call = x.call(1, x.number(1), 0, 0);
    due(18, "melt() of a LOOSE one", x.melt(call), BAD);
    due(18, "melt() of no CALL", x.melt(0), BAD);
    due(18, "melt(-1)", x.melt(-1), BAD);
    due(18, "melt(most)", x.melt(MOST), BAD);
    int gap = x.routine(0);
    x.body(0, both(x, call, x.call(gap, 0, 0, 0)));
    due(18, "melt() of a MISSING one", x.melt(call + 1), NO);
    fill(x, 595);
    // BOTH, SET, BLOCK and three more: six are too many for 595, not for 594.
    due(18, "melt(), 601 STEPS", x.melt(call), FULL);
    due(18, "count(0)", x.count(0), 595);
    due(18, "told(call, 0)", x.told(call, 0), 6);
    due(18, "count(5)", x.count(5), 0);
    CallMelt y = withNextOf();
    int last = y.call(1, y.number(1), 0, 0);
    y.body(0, last);
    fill(y, 594);
    due(18, "melt(), 600 STEPS", y.melt(last), 594);
    due(18, "count(0)", y.count(0), 600);
  }

  private static void promise18Names() {
    for (int names = 39; names <= 40; names++) {
      CallMelt x = withNextOf();
      int call = x.call(1, x.name(names - 1), 0, 0);
      x.body(0, call);
      due(18, "melt(), " + (names + 1) + " NAMES", x.melt(call), names == 39 ? 5 : FULL);
    }
  }

  private static void promise18High() {
    for (int over = 0; over < 2; over++) {
      // The CALL 3 below the outermost; BOTH, BOTH, BLOCK, and 34 of its BODY: 40 HIGH.
      CallMelt x = new CallMelt();
      x.routine(0);
      x.routine(2);
      x.body(1, high(x, 34 + over));
      int call = x.call(1, x.number(1), x.number(2), 0);
      x.body(0, x.set(0, x.set(0, x.set(0, call))));
      int due = over == 0 ? x.count(0) : FULL;
      due(18, "melt(), by its BODY " + (40 + over) + " HIGH", x.melt(call), due);
      // The CALL 2 below; BOTH, BOTH, SET, and 35 of PART 1: 40 HIGH.
      CallMelt y = new CallMelt();
      y.routine(0);
      y.routine(2);
      y.body(1, y.number(3));
      int other = y.call(1, y.number(1), high(y, 35 + over), 0);
      y.body(0, y.set(0, y.set(0, other)));
      int dueToo = over == 0 ? y.count(0) : FULL;
      due(18, "melt(), by its PART " + (40 + over) + " HIGH", y.melt(other), dueToo);
    }
  }

  private static void promise19() {
    CallMelt x = withNextOf();
    int call = x.call(1, x.number(1), 0, 0);
    due(19, "gain() of a LOOSE one", x.gain(call), BAD);
    x.body(0, call);
    due(19, "gain()", x.gain(call), 0);
    x.run(0, 0, 0, 0, 99);
    x.run(0, 0, 0, 0, 5);
    x.run(0, 0, 0, 0, 4);
    due(19, "gain()", x.gain(call), 8);
    due(19, "gain() of no CALL", x.gain(0), BAD);
    due(19, "gain(-1)", x.gain(-1), BAD);
    due(19, "gain(most)", x.gain(MOST), BAD);
    x.body(1, -1);
    due(19, "gain() of a MISSING one", x.gain(call), 8);
    x.undo();
    x.melt(call);
    due(19, "gain() of one that is GONE", x.gain(call), BAD);
    x.undo();
    due(19, "gain() behind undo()", x.gain(call), 8);
  }

  private static void promise20() {
    CallMelt x = toMelt();
    int before = x.about(0, 2);
    due(20, "weight()", x.weight(10), 18);
    x.melt(10);
    due(20, "about(0, 2)", x.about(0, 2), before + 18);
    x.undo();
    due(20, "weight() of no CALL", x.weight(9), BAD);
    due(20, "weight(-1)", x.weight(-1), BAD);
    due(20, "weight(most)", x.weight(MOST), BAD);
    x.body(1, -1);
    due(20, "weight() of a MISSING one", x.weight(10), NO);
    x.body(0, -1);
    due(20, "weight() of a LOOSE one", x.weight(10), BAD);
    CallMelt y = new CallMelt();
    y.routine(0);
    y.routine(0);
    y.body(1, y.number(1));
    y.body(0, y.call(1, 0, 0, 0));
    due(20, "the least weight()", y.weight(1), 1);
    // Told ahead, be it that it would be FULL.
    CallMelt z = withNextOf();
    int call = z.call(1, z.name(39), 0, 0);
    z.body(0, call);
    due(20, "weight() of what can't be", z.weight(call), 5);
    due(20, "melt()", z.melt(call), FULL);
  }

  /** What ahead() answers for a ROUTINE of 2 PARAMS with that BODY. */
  private static int ahead(CallMelt x, int step) {
    int r = x.routine(2);
    x.body(r, step);
    return x.ahead(r);
  }

  private static int bodyKind(CallMelt x) {
    return x.told(x.about(x.count(3) - 1, 1), 0);
  }

  private static int bodyNumber(CallMelt x) {
    return x.told(x.about(x.count(3) - 1, 1), 1);
  }

  private static void promise21Rules() {
    CallMelt x = new CallMelt();
    due(21, "ahead(0)", x.ahead(0), BAD);
    due(21, "ahead(-1)", x.ahead(-1), BAD);
    int r = x.routine(0);
    due(21, "ahead() of a MISSING one", x.ahead(r), NO);
    due(21, "a", ahead(x, x.act(3, x.number(LEAST), x.number(-1))), 2);
    due(21, "a: a new STEP", x.about(1, 1), 3);
    due(21, "a: NUMBER", bodyKind(x), 0);
    due(21, "a: what it comes to", bodyNumber(x), LEAST);
    due(21, "a: GONE", x.told(0, 0) + x.told(1, 0) + x.told(2, 0), -3);
    due(21, "a by 0", ahead(x, x.act(3, x.number(7), x.number(0))), 0);
    due(21, "a of a NAME", ahead(x, x.act(0, x.number(7), x.name(0))), 0);
    int yes = x.name(0);
    due(21, "b, not 0", ahead(x, pick(x, x.number(-1), yes, x.set(1, x.name(1)))), 4);
    due(21, "b: the PART itself", x.about(4, 1), yes);
    int no = x.name(1);
    due(21, "b, 0", ahead(x, pick(x, x.number(0), x.name(0), no)), 3);
    due(21, "b: the PART itself", x.about(5, 1), no);
    due(21, "told(no, 5)", x.told(no, 5), NONE);
    int made = x.count(0);
    due(21, "c", ahead(x, loop(x, x.number(0), x.set(0, x.name(1)))), 3);
    due(21, "c: a new STEP", x.about(6, 1), made + 4);
    due(21, "c: 0", bodyNumber(x), 0);
    due(21, "c, not 0", ahead(x, loop(x, x.number(1), x.set(0, x.name(1)))), 0);
    int second = x.set(0, x.name(1));
    due(21, "d, NUMBER", ahead(x, both(x, x.number(1), second)), 2);
    due(21, "d: the second itself", x.about(8, 1), second);
    int other = reach(x, x.number(1));
    due(21, "d, NAME", ahead(x, both(x, x.name(5), other)), 2);
    CallMelt y = new CallMelt();
    due(21, "d, of others", ahead(y, both(y, reach(y, y.number(1)), y.number(2))), 0);
    due(21, "a in a, d in b", ahead(y, both(y, y.act(0, y.act(2, y.number(2), y.number(3)), y.number(4)),
        pick(y, y.act(4, y.number(1), y.number(2)), y.name(0), y.name(1)))), 11);
    due(21, "NAME 0", bodyKind(y) * 10 + bodyNumber(y), 10);
    due(21, "ahead() again", y.ahead(1), 0);
    due(21, "count(5)", y.count(5), 3);
  }

  private static void promise21Fixed() {
    CallMelt x = new CallMelt();
    int one = x.name(2);
    int two = x.name(2);
    int all = both(x, x.set(2, x.number(9)), x.act(0, x.act(1, one, x.name(0)), two));
    int made = x.count(0);
    due(21, "f", ahead(x, all), 3);
    due(21, "f: by the order of the NAMES", x.told(x.told(x.about(0, 1), 2), 2), made);
    due(21, "f: the second NAME", x.told(x.about(0, 1), 3), made + 1);
    due(21, "f: that NUMBER", x.told(made, 1), 9);
    due(21, "f: GONE", x.told(one, 0) + x.told(two, 0) + x.told(all, 0), -3);
    x.run(0, 4, 0, 0, 9);
    due(21, "ran(0)", x.ran(0), 14);
    due(21, "f of a PARAM", ahead(x, both(x, x.set(1, x.number(9)), x.name(1))), 0);
    due(21, "f, its second the NAME", ahead(x, both(x, x.set(3, x.number(9)), x.name(3))), 3);
    due(21, "NUMBER 9", bodyKind(x) * 10 + bodyNumber(x), 9);
    due(21, "f without a NAME", ahead(x, both(x, x.set(3, x.number(9)), x.name(1))), 3);
    due(21, "f, another SET", ahead(x, both(x, x.set(3, x.number(9)),
        both(x, x.set(3, x.name(0)), x.name(3)))), 0);
    due(21, "f, a NAME elsewhere", ahead(x, x.act(0, x.name(3),
        both(x, x.set(3, x.number(9)), x.name(3)))), 0);
    due(21, "f, no NUMBER", ahead(x, both(x, x.set(3, x.name(0)), x.name(3))), 0);
    due(21, "f, another NAME elsewhere", ahead(x, x.act(0, x.name(4),
        both(x, x.set(3, x.number(9)), x.name(3)))), 3);
    due(21, "f, then a and b", ahead(x, both(x, x.set(3, x.number(2)), pick(x,
        x.act(5, x.name(3), x.number(2)), leave(x, x.name(3)), x.name(0)))), 8);
    due(21, "LEAVE", bodyKind(x), LEAVE);
  }

  private static void promise21Blocks() {
    // BLOCKS come of MELTING alone: routine 1 leaves, routine 2 does not.
    CallMelt x = new CallMelt();
    x.routine(0);
    x.routine(1);
    x.routine(1);
    x.body(1, pick(x, x.name(0), leave(x, x.number(1)), x.number(2)));
    x.body(2, x.act(0, x.name(0), x.number(1)));
    int called = x.call(1, x.act(0, x.number(5), reach(x, x.number(0))), 0, 0);
    int top = x.call(2, called, 0, 0);
    x.body(0, top);
    int inner = x.melt(called);
    int outer = x.melt(top);
    due(21, "the BLOCKS", x.told(x.told(outer, 3), 0) + x.told(x.told(inner, 3), 0), 22);
    int size = x.about(0, 2);
    due(21, "e where LEAVE ends another", x.ahead(0), 1);
    due(21, "about(0, 2)", x.about(0, 2), size - 1);
    due(21, "the inner one stays", x.told(x.told(inner, 3), 0), 11);
    due(21, "the outer one went", x.told(x.told(outer, 3), 0), 2);
    x.undo();
    due(21, "the outer one is back", x.told(x.told(outer, 3), 0), 11);
    CallMelt y = new CallMelt();
    y.routine(0);
    y.routine(0);
    y.routine(0);
    y.body(2, leave(y, reach(y, y.number(1))));
    int in = y.call(2, 0, 0, 0);
    y.body(1, both(y, in, leave(y, y.number(4))));
    int out = y.call(1, 0, 0, 0);
    y.body(0, out);
    y.melt(in);
    int block = y.melt(out);
    due(21, "e, LEAVE behind an inner BLOCK", y.ahead(0), 0);
    due(21, "told(block, 0)", y.told(block, 0), 11);
  }

  private static void promise21Order() {
    CallMelt x = new CallMelt();
    int left = x.act(0, x.number(1), x.number(2));
    int right = x.act(0, x.number(3), x.number(4));
    int all = lays(x, left, right);
    int made = x.count(0);
    ahead(x, all);
    due(21, "the first STEP first", x.told(all, 2), made);
    due(21, "the second then", x.told(all, 3), made + 1);
    due(21, "told(made, 1)", x.told(made, 1), 3);
    // The outermost first: what goes with a PICK is not worked ahead.
    int gone = x.act(0, x.number(1), x.number(2));
    int stays = x.act(0, x.number(5), x.number(6));
    int choice = pick(x, x.number(0), gone, stays);
    made = x.count(0);
    ahead(x, choice);
    due(21, "count(0)", x.count(0), made + 1);
    due(21, "NUMBER 11", bodyNumber(x), 11);
    due(21, "its number", x.about(1, 1), made);
    // What a change lets hold further out comes ahead of what stands further in.
    int c = x.act(0, x.act(0, x.number(1), x.number(1)), x.number(1));
    int d = x.act(0, x.number(7), x.number(7));
    made = x.count(0) + 1;
    ahead(x, lays(x, c, d));
    due(21, "told(made, 1)", x.told(made + 1, 1), 3);
    due(21, "told(made + 1, 1)", x.told(made + 2, 1), 14);
  }

  private static void promise21Full() {
    CallMelt x = new CallMelt();
    int r = x.routine(0);
    int one = x.act(0, x.number(1), x.number(2));
    int two = x.act(0, x.number(3), x.number(4));
    int all = lays(x, one, two);
    x.body(r, all);
    fill(x, 599);
    int gone = x.count(1);
    due(21, "ahead() to 601 STEPS", x.ahead(r), FULL);
    due(21, "count(0)", x.count(0), 599);
    due(21, "count(1)", x.count(1), gone);
    due(21, "told(all, 2)", x.told(all, 2), one);
    due(21, "told(one, 0)", x.told(one, 0), 2);
    due(21, "told(one, 2)", x.told(one, 2), 0);
    due(21, "count(5)", x.count(5), 0);
    due(21, "number()", x.number(8), 599);
    due(21, "told(599, 1)", x.told(599, 1), 8);
    due(21, "told(599, 7)", x.told(599, 7), 0);
    CallMelt y = new CallMelt();
    int s = y.routine(0);
    int last = y.act(0, y.number(1), y.number(2));
    y.body(s, last);
    fill(y, 599);
    due(21, "ahead() to 600 STEPS", y.ahead(s), 2);
    due(21, "ahead() without a new STEP", y.ahead(s), 0);
    // In f, halfway through its NAMES.
    CallMelt z = new CallMelt();
    int t = z.routine(0);
    int a = z.name(0);
    int b = z.name(0);
    z.body(t, both(z, z.set(0, z.number(1)), z.act(0, a, b)));
    fill(z, 599);
    due(21, "f to 601 STEPS", z.ahead(t), FULL);
    due(21, "told(a, 0)", z.told(a, 0), 1);
    due(21, "told(a, 6)", z.told(a, 6), t);
    due(21, "about(t, 2)", z.about(t, 2), 6);
  }

  private static void promise22() {
    CallMelt x = new CallMelt();
    due(22, "drop()", x.drop(), NO);
    for (int r = 0; r < 6; r++) {
      x.routine(0);
    }
    due(22, "drop(), all are MISSING", x.drop(), 0);
    x.body(0, x.call(3, 0, 0, 0));
    int deep = x.call(5, 0, 0, 0);
    x.body(3, x.set(0, deep));
    x.body(5, x.call(0, 0, 0, 0));
    int four = x.number(4);
    x.body(4, four);
    x.body(1, x.call(4, 0, 0, 0));
    x.call(1, 0, 0, 0);
    due(22, "count(4)", x.count(4), 1);
    due(22, "drop()", x.drop(), 2);
    due(22, "about(4, 1)", x.about(4, 1), NONE);
    due(22, "about(1, 1)", x.about(1, 1), NONE);
    due(22, "about(3, 2)", x.about(3, 2), 2);
    due(22, "about(5, 2)", x.about(5, 2), 1);
    due(22, "told(four, 0): it is LOOSE", x.told(four, 0), 0);
    due(22, "told(four, 6)", x.told(four, 6), NONE);
    due(22, "drop() again", x.drop(), 0);
    due(22, "count(5)", x.count(5), 2);
    x.body(3, -1);
    due(22, "drop() of what a MISSING one called", x.drop(), 1);
    due(22, "about(5, 1)", x.about(5, 1), NONE);
    due(22, "about(0, 2): where it begins", x.about(0, 2), 1);
    x.undo();
    x.undo();
    x.undo();
    x.undo();
    due(22, "about(4, 1) behind undo()", x.about(4, 1), four);
    due(22, "count(5)", x.count(5), 0);
    CallMelt y = new CallMelt();
    y.routine(0);
    y.routine(0);
    y.body(0, y.number(1));
    y.body(1, y.number(2));
    due(22, "drop(), 0 is not called", y.drop(), 1);
    due(22, "about(0, 1)", y.about(0, 1), 0);
  }

  private static void promise23() {
    CallMelt x = toMelt();
    due(23, "count(5)", x.count(5), 1);
    due(23, "run", x.run(0, 3, 0, 0, 99), 0);
    x.lay(2, 22);
    int count = x.told(10, 7);
    x.melt(10);
    due(23, "told(10, 7)", x.told(10, 7), 0);
    x.run(0, 3, 0, 0, 99);
    x.ahead(0);
    int made = x.count(0);
    int size = x.about(0, 2);
    due(23, "undo() of ahead()", x.undo(), 1);
    due(23, "about(0, 2)", x.about(0, 2), 6 + 18);
    due(23, "fewer", size < 24 ? 1 : 0, 1);
    due(23, "undo() of melt()", x.undo(), 1);
    due(23, "about(0, 2)", x.about(0, 2), 6);
    due(23, "told(13, 3)", x.told(13, 3), 10);
    due(23, "told(10, 2)", x.told(10, 2), 8);
    due(23, "told(10, 3)", x.told(10, 3), 9);
    due(23, "told(8, 5)", x.told(8, 5), 10);
    due(23, "told(10, 7): COUNTS stay", x.told(10, 7), count);
    due(23, "told(8, 7): COUNTS stay", x.told(8, 7), 2);
    due(23, "row(2)", x.row(2), 22);
    due(23, "count(0): they stay counted", x.count(0), made);
    due(23, "count(1)", x.count(1), made - 14);
    due(23, "told(14, 0)", x.told(14, 0), -1);
    due(23, "told(14, 2)", x.told(14, 2), NONE);
    due(23, "melt(10): new numbers", x.melt(10), made);
    due(23, "undo()", x.undo(), 1);
    due(23, "undo() of body()", x.undo(), 1);
    due(23, "about(0, 1)", x.about(0, 1), NONE);
    due(23, "undo()", x.undo(), NO);
    due(23, "told(13, 0): it is LOOSE", x.told(13, 0), 2);
  }

  private static void promise23Kept() {
    CallMelt x = new CallMelt();
    int r = x.routine(0);
    int a = x.number(1);
    int b = x.number(2);
    x.body(r, a);
    for (int i = 0; i < 7; i++) {
      x.body(r, i % 2 == 0 ? b : a);
      x.body(r, -1);
    }
    due(23, "count(5): 12 are kept", x.count(5), 12);
    due(23, "body() that was refused", x.body(r, 9), BAD);
    due(23, "melt() that was refused", x.melt(a), BAD);
    due(23, "ahead() that was refused", x.ahead(r), NO);
    due(23, "count(5)", x.count(5), 12);
    for (int i = 12; i > 0; i--) {
      due(23, "undo()", x.undo(), 1);
      due(23, "count(5)", x.count(5), i - 1);
      due(23, "about(r, 1), " + i, x.about(r, 1), i % 2 == 1 ? NONE : i % 4 == 0 ? b : a);
    }
    due(23, "undo(), none is left", x.undo(), NO);
    x.body(r, a);
    due(23, "a STEP that is refused", x.name(40), BAD);
    due(23, "count(5)", x.count(5), 1);
    x.number(3);
    due(23, "count(5), a STEP told anew", x.count(5), 0);
    due(23, "undo()", x.undo(), NO);
    x.body(r, -1);
    due(23, "a ROUTINE that is refused", x.routine(4), BAD);
    due(23, "count(5)", x.count(5), 1);
    x.routine(1);
    due(23, "count(5), a ROUTINE told anew", x.count(5), 0);
    x.body(r, a);
    x.join(BOTH, 0, b, 2);
    due(23, "count(5), join", x.count(5), 0);
    // A FULL one pushes none out.
    CallMelt y = new CallMelt();
    y.routine(0);
    y.body(0, y.act(0, y.number(1), y.number(2)));
    fill(y, 600);
    for (int i = 0; i < 12; i++) {
      y.body(0, i % 2 == 0 ? -1 : 2);
    }
    due(23, "ahead()", y.ahead(0), FULL);
    due(23, "count(5)", y.count(5), 12);
    for (int i = 0; i < 12; i++) {
      due(23, "undo()", y.undo(), 1);
    }
    due(23, "about(0, 1)", y.about(0, 1), 2);
    due(23, "undo()", y.undo(), NO);
  }

  private static void promise24() {
    CallMelt x = market(new int[] {3, 1, 2, 4});
    // CALLS 10 .. 13 with WEIGHTS 3, 1, 2, 4.
    due(24, "layout(), no GAIN", x.layout(0, 9), 0);
    due(24, "laid(0)", x.laid(0), 0);
    visit(x, 5, 1, 2, 6);
    due(24, "layout(0, 5)", x.layout(0, 5), 2);
    due(24, "laid(0)", x.laid(0), 28);
    due(24, "laid(1)", x.laid(1), 5);
    due(24, "laid(2)", x.laid(2), 10);
    due(24, "laid(3)", x.laid(3), 12);
    due(24, "layout(0, 0)", x.layout(0, 0), 0);
    due(24, "layout(0, 1)", x.layout(0, 1), 1);
    due(24, "laid(2)", x.laid(2), 11);
    due(24, "layout(0, 7)", x.layout(0, 7), 2);
    due(24, "laid(2)", x.laid(2), 10);
    due(24, "laid(3)", x.laid(3), 13);
    due(24, "layout(0, 1000)", x.layout(0, 1000), 4);
    due(24, "laid(0)", x.laid(0), 56);
    due(24, "laid(1)", x.laid(1), 10);
    due(24, "layout(0, 1001)", x.layout(0, 1001), BAD);
    due(24, "layout(0, -1)", x.layout(0, -1), BAD);
    due(24, "layout(5, 9)", x.layout(5, 9), BAD);
    due(24, "layout(-1, 9)", x.layout(-1, 9), BAD);
    due(24, "laid(0)", x.laid(0), 56);
    x.body(3, -1);
    due(24, "layout(), one is MISSING", x.layout(0, 1000), 3);
    due(24, "laid(2)", x.laid(2), 11);
    due(24, "layout() of a MISSING one", x.layout(3, 9), NO);
    due(24, "layout(3, -1)", x.layout(3, -1), BAD);
  }

  private static void promise24Ties() {
    CallMelt x = market(new int[] {2, 1, 1, 2, 1});
    // CALLS 10 .. 14 with WEIGHTS 2, 1, 1, 2, 1.
    visit(x, 2, 1, 1, 2, 0);
    due(24, "layout(0, 2)", x.layout(0, 2), 1);
    due(24, "the least CALL", x.laid(2), 10);
    due(24, "layout(0, 3)", x.layout(0, 3), 2);
    due(24, "the least CALL", x.laid(2), 10);
    due(24, "then the next one", x.laid(3), 11);
    due(24, "layout(0, 4)", x.layout(0, 4), 3);
    due(24, "10, 11, 12 ahead of 10, 13", x.laid(3), 11);
    due(24, "10, 11, 12 ahead of 10, 13", x.laid(4), 12);
    due(24, "layout(0, 1000)", x.layout(0, 1000), 4);
    due(24, "the least WEIGHT: one without GAIN stays", x.laid(1), 6);
    CallMelt y = market(new int[] {4, 1, 2});
    visit(y, 3, 1, 2);
    due(24, "of like GAIN the least WEIGHT", y.layout(0, 4), 2);
    due(24, "laid(1)", y.laid(1), 3);
    due(24, "laid(2)", y.laid(2), 11);
  }

  private static void promise24Twelve() {
    CallMelt x = market(new int[] {1, 1, 1, 1, 1, 1, 1, 1, 1, 1, 1, 1, 1, 1});
    visit(x, 1, 1, 1, 1, 1, 1, 1, 1);
    due(24, "gain() of the 13th", x.gain(22), 4);
    due(24, "layout(): the first 12", x.layout(0, 1000), 12);
    due(24, "laid(13)", x.laid(13), 21);
    due(24, "laid(14)", x.laid(14), NONE);
    // Those that are not LOOKED AT make room: of itself, of MISSING ones, in other BODIES.
    CallMelt y = new CallMelt();
    y.routine(0);
    y.routine(0);
    y.routine(0);
    y.body(1, y.number(1));
    int all = y.number(0);
    for (int i = 0; i < 6; i++) {
      all = both(y, pick(y, y.number(0), y.call(0, 0, 0, 0), y.call(2, 0, 0, 0)), all);
    }
    y.body(0, all);
    int last = y.call(1, 0, 0, 0);
    int elsewhere = y.routine(0);
    y.body(0, -1);
    y.body(0, both(y, last, all));
    y.body(elsewhere, y.call(1, 0, 0, 0));
    y.run(0, 0, 0, 0, 99);
    due(24, "layout()", y.layout(0, 9), 1);
    due(24, "laid(2)", y.laid(2), last);
    due(26, "next()", y.next(0, 9), last);
  }

  private static void promise25() {
    CallMelt x = market(new int[] {1, 2});
    due(25, "laid(0), none yet", x.laid(0), NO);
    due(25, "laid(-1), none yet", x.laid(-1), BAD);
    x.layout(9, 3);
    due(25, "laid(0), a BAD one", x.laid(0), NO);
    visit(x, 1, 1);
    x.layout(0, 9);
    due(25, "laid(0)", x.laid(0), 8);
    due(25, "laid(1)", x.laid(1), 3);
    due(25, "laid(2)", x.laid(2), 10);
    due(25, "laid(3)", x.laid(3), 11);
    due(25, "laid(4)", x.laid(4), NONE);
    due(25, "laid(most)", x.laid(MOST), NONE);
    due(25, "laid(least)", x.laid(LEAST), BAD);
    x.next(0, 1);
    x.melt(10);
    due(25, "laid(2), MELTED since", x.laid(2), 10);
    x.undo();
    x.clearCounts();
    due(25, "laid(0), COUNTS cleared since", x.laid(0), 8);
  }

  private static void promise26() {
    CallMelt x = market(new int[] {3, 1, 2, 4});
    due(26, "next(), no GAIN: the least number", x.next(0, 9), 10);
    due(26, "next(), within the budget", x.next(0, 2), 11);
    due(26, "next(0, 0)", x.next(0, 0), NONE);
    visit(x, 5, 2, 5, 10);
    // 20 / 3, 8 / 1, 20 / 2, 40 / 4.
    due(26, "next(), of like ones the least number", x.next(0, 9), 12);
    due(26, "next(0, 1)", x.next(0, 1), 11);
    due(26, "next(0, 3)", x.next(0, 3), 12);
    visit(x, 0, 0, 0, 1);
    due(26, "next(), the greatest fraction", x.next(0, 4), 13);
    due(26, "next(0, 3)", x.next(0, 3), 12);
    due(26, "next(0, 1000)", x.next(0, 1000), 13);
    due(26, "next(0, 1001)", x.next(0, 1001), BAD);
    due(26, "next(0, -1)", x.next(0, -1), BAD);
    due(26, "next(5, 1)", x.next(5, 1), BAD);
    due(26, "next(1, 9), no CALLS", x.next(1, 9), NONE);
    x.body(1, -1);
    due(26, "next() of a MISSING one", x.next(1, 9), NO);
    due(26, "next(), its CALL", x.next(0, 1), NONE);
  }

  private static void promise27() {
    CallMelt x = withNextOf();
    int call = x.call(1, x.number(1), 0, 0);
    int other = x.number(3);
    x.body(0, call);
    int[] want = {6, 0, 1, 2, 0, 1};
    for (int what = 0; what < 6; what++) {
      due(27, "count(" + what + ")", x.count(what), want[what]);
    }
    x.melt(call);
    int[] melted = {12, 1, 1, 2, 0, 2};
    for (int what = 0; what < 6; what++) {
      due(27, "count(" + what + "), MELTED", x.count(what), melted[what]);
    }
    x.body(1, other);
    int[] changed = {12, 1, 1, 2, 0, 3};
    for (int what = 0; what < 6; what++) {
      due(27, "count(" + what + "), another BODY", x.count(what), changed[what]);
    }
    x.body(1, -1);
    x.undo();
    x.undo();
    x.undo();
    x.body(0, -1);
    int[] last = {12, 6, 2, 2, 1, 2};
    for (int what = 0; what < 6; what++) {
      due(27, "count(" + what + "), taken back", x.count(what), last[what]);
    }
    due(27, "count(-1)", x.count(-1), BAD);
    due(27, "count(6)", x.count(6), BAD);
  }
}
