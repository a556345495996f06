import java.util.ArrayList;
import java.util.List;

/**
 * Tells STEPS from a text such as both[set3[9] act0[n3 2]], PARTS first, as Tests.show() writes it.
 * BLOCKS come of MELTING alone: block[..] is told as a CALL of a ROUTINE of its own (without NAMES),
 * and MELTED when it stands in a BODY.
 */
final class Teller {
  private final CallMelt x;
  private final String text;
  private final List<Integer> blocks = new ArrayList<>();
  private int at;

  private Teller(CallMelt x, String text) {
    this.x = x;
    this.text = text;
  }

  /** A LOOSE STEP; there are no BLOCKS in it. */
  static int tell(CallMelt x, String text) {
    Teller teller = new Teller(x, text);
    int step = teller.step();
    if (!teller.blocks.isEmpty() || teller.at != text.length()) {
      throw new IllegalArgumentException(text);
    }
    return step;
  }

  /** A new BODY of a ROUTINE. */
  static int body(CallMelt x, int r, String text) {
    Teller teller = new Teller(x, text);
    x.body(r, teller.step());
    for (int call : teller.blocks) {
      x.melt(call);
    }
    return x.about(r, 1);
  }

  private int step() {
    String word = letters();
    int number = number();
    int[] parts = parts();
    int first = parts[0];
    int second = parts[1];
    int third = parts[2];
    switch (word) {
      case "":
        return x.number(number);
      case "n":
        return x.name(number);
      case "act":
        return x.act(number, first, second);
      case "pick":
        return x.join(Tests.PICK, first, second, third);
      case "set":
        return x.set(number, first);
      case "both":
        return x.join(Tests.BOTH, 0, first, second);
      case "call":
        return x.call(number, first, second, third);
      case "leave":
        return x.join(Tests.LEAVE, 0, first, 0);
      case "while":
        return x.join(Tests.WHILE, 0, first, second);
      case "reach":
        return x.join(Tests.REACH, 0, first, 0);
      case "lay":
        return x.join(Tests.LAY, 0, first, second);
      case "block":
        return block(first);
      default:
        throw new IllegalArgumentException(word);
    }
  }

  private int block(int step) {
    int r = x.routine(0);
    x.body(r, step);
    int call = x.call(r, 0, 0, 0);
    blocks.add(call);
    return call;
  }

  private char sign() {
    return at < text.length() ? text.charAt(at) : ']';
  }

  private String letters() {
    int from = at;
    while (Character.isLetter(sign())) {
      at++;
    }
    return text.substring(from, at);
  }

  private int number() {
    int from = at;
    while (sign() == '-' || Character.isDigit(sign())) {
      at++;
    }
    return at == from ? 0 : Integer.parseInt(text.substring(from, at));
  }

  private int[] parts() {
    int[] parts = {-1, -1, -1};
    if (sign() != '[') {
      return parts;
    }
    for (int place = 0; sign() != ']'; place++) {
      at++;
      parts[place] = step();
    }
    at++;
    return parts;
  }
}
