/** No call throws or fails to end, whatever it is given: all of them with numbers of all sorts. */
public final class ArgumentsTest extends Tests {
  private static final int[] SOME = {LEAST, -1000000000, -5, -4, -2, -1, 0, 1, 2, 3, 4, 6, 8, 9, 10,
      12, 39, 40, 41, 599, 600, 601, 1000, 1001, 2000, 2001, MOST};
  private static final int[] FEW = {LEAST, -1, 0, 1, 2, 3, 5, 12, 600, MOST};

  private final CallMelt real = new CallMelt();
  private final Model model = new Model();

  public static void main(String[] args) throws ReflectiveOperationException {
    runAll(ArgumentsTest.class);
  }

  private static void ofANewObject() {
    says("a new object");
    new ArgumentsTest().askAll();
  }

  private static void ofRoutinesWithoutBody() {
    says("ROUTINES that are MISSING");
    ArgumentsTest test = new ArgumentsTest();
    for (int params = 0; params < 4; params++) {
      test.real.routine(params);
      test.model.routine(params);
    }
    test.askAll();
    test.changeAll();
    test.askAll();
  }

  private static void ofSomeSteps() {
    says("STEPS and BODIES");
    ArgumentsTest test = new ArgumentsTest();
    test.build();
    test.askAll();
    test.changeAll();
    test.askAll();
  }

  private static void ofAFullObject() {
    says("600 STEPS");
    ArgumentsTest test = new ArgumentsTest();
    test.build();
    for (int i = 0; i < MOST_STEPS; i++) {
      test.real.number(i);
      test.model.number(i);
    }
    test.askAll();
    test.changeAll();
    test.askAll();
  }

  private static void ofAnObjectWithoutFuel() {
    says("60000 FUEL were taken");
    ArgumentsTest test = new ArgumentsTest();
    test.build();
    int last = test.real.count(0);
    due("number()", test.real.number(1), test.model.number(1));
    due("number()", test.real.number(1), test.model.number(1));
    due("join()", test.real.join(WHILE, 0, last, last + 1), test.model.join(WHILE, 0, last, last + 1));
    due("body()", test.real.body(0, last + 2), test.model.body(0, last + 2));
    for (int i = 0; i < 31; i++) {
      due("run()", test.real.run(0, 0, 0, 0, 2000), test.model.run(0, 0, 0, 0, 2000));
    }
    test.askAll();
    test.changeAll();
    test.askAll();
  }

  private void build() {
    for (int params = 0; params < 4; params++) {
      due("routine()", real.routine(params), model.routine(params));
    }
    due("name()", real.name(0), model.name(0));
    due("number()", real.number(0), model.number(0));
    due("act()", real.act(QUOTIENT, 0, 1), model.act(QUOTIENT, 0, 1));
    due("body()", real.body(1, 2), model.body(1, 2));
    due("number()", real.number(7), model.number(7));
    due("call()", real.call(1, 3, 0, 0), model.call(1, 3, 0, 0));
    due("body()", real.body(0, 4), model.body(0, 4));
    due("number()", real.number(8), model.number(8));
  }

  private void askAll() {
    for (int i : SOME) {
      due("ran(" + i + ")", real.ran(i), model.ran(i));
      due("row(" + i + ")", real.row(i), model.row(i));
      due("laid(" + i + ")", real.laid(i), model.laid(i));
      due("count(" + i + ")", real.count(i), model.count(i));
      due("gain(" + i + ")", real.gain(i), model.gain(i));
      due("weight(" + i + ")", real.weight(i), model.weight(i));
      for (int j : SOME) {
        String both = "(" + i + ", " + j + ")";
        due("told" + both, real.told(i, j), model.told(i, j));
        due("about" + both, real.about(i, j), model.about(i, j));
        due("same" + both, real.same(i, j), model.same(i, j));
        due("next" + both, real.next(i, j), model.next(i, j));
        due("layout" + both, real.layout(i, j), model.layout(i, j));
        due("laid(0)", real.laid(0), model.laid(0));
        for (int k : FEW) {
          String run = "run(" + i + ", " + k + ", " + k + ", " + k + ", " + j + ")";
          due(run, real.run(i, k, k, k, j), model.run(i, k, k, k, j));
        }
      }
    }
  }

  private void changeAll() {
    for (int i : SOME) {
      due("melt(" + i + ")", real.melt(i), model.melt(i));
      due("ahead(" + i + ")", real.ahead(i), model.ahead(i));
      due("name(" + i + ")", real.name(i), model.name(i));
      due("routine(" + i + ")", real.routine(i), model.routine(i));
      due("undo()", real.undo(), model.undo());
      for (int j : SOME) {
        String both = "(" + i + ", " + j + ")";
        due("lay" + both, real.lay(i, j), model.lay(i, j));
        due("set" + both, real.set(i, j), model.set(i, j));
        due("body" + both, real.body(i, j), model.body(i, j));
      }
      due("undo()", real.undo(), model.undo());
    }
    for (int i : FEW) {
      for (int j : FEW) {
        for (int k : FEW) {
          String three = "(" + i + ", " + j + ", " + k;
          due("act" + three + ")", real.act(i, j, k), model.act(i, j, k));
          for (int l : FEW) {
            due("join" + three + ", " + l + ")", real.join(i, j, k, l), model.join(i, j, k, l));
            due("call" + three + ", " + l + ")", real.call(i, j, k, l), model.call(i, j, k, l));
          }
        }
      }
    }
    due("drop()", real.drop(), model.drop());
    due("clearCounts()", real.clearCounts(), model.clearCounts());
  }
}
