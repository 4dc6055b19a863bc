import java.util.ArrayDeque;
import java.util.ArrayList;
import java.util.List;
import java.util.Map;

/** The law once more, by other means than VanShelves: a machine of states finds faults, a tree answers. */
final class PlainLaw {
  static final class Refused extends RuntimeException {
    private static final long serialVersionUID = 1L;
  }

  interface Node { int of(Map<Character, Integer> facts); }

  static final class Clause {
    char letter;
    Node sum;
    Node test;
  }

  final List<Clause> clauses = new ArrayList<>();
  private String text = "";
  private int at;

  private enum State { CLAUSE, FACTOR, PIECE, DIGITS, VALUE, TRUTH, END }

  /** 0, or the answer of law() for the first fault from the left. */
  static int fault(String text) {
    ArrayDeque<Character> open = new ArrayDeque<>();
    State state = State.CLAUSE;
    int clauses = 0;
    int digits = 0;
    int side = 0; // 0 the clause's sum, 1 left, 2 right of a comparison
    for (int i = 0; i <= text.length(); i++) {
      char c = i < text.length() ? text.charAt(i) : (char) 999;
      int wrong = -1000 - i;
      switch (state) {
        case CLAUSE:
          if ("wdf".indexOf(c) < 0) return wrong;
          if (clauses == 14) return -4000 - i;
          clauses++;
          side = 0;
          state = State.FACTOR;
          break;
        case PIECE:
          if (c == '!' || c == '(') {
            if (open.size() == 6) return -5000 - i;
            open.push(c);
            break;
          }
          side = 1;
          // a comparison begins with a factor
        case FACTOR:
          if (c == '[') {
            if (open.size() == 6) return -5000 - i;
            open.push(c);
            state = State.FACTOR;
          } else if (c >= '0' && c <= '9') {
            digits = 1;
            state = State.DIGITS;
          } else if ("tklfpnhsbyxr".indexOf(c) >= 0) {
            state = State.VALUE;
          } else {
            return wrong;
          }
          break;
        case DIGITS:
          if (c >= '0' && c <= '9') {
            if (digits == 5) return -2000 - i;
            digits++;
            break;
          }
          // behind the last digit stands what may stand behind a value
        case VALUE:
          if ("+-*/%".indexOf(c) >= 0) {
            state = State.FACTOR;
            break;
          }
          if (!open.isEmpty() && open.peek() == '[') {
            if (c != ']') return wrong;
            open.pop();
            state = State.VALUE;
            break;
          }
          if (side == 0) {
            if (c != '(') return wrong;
            open.push(c);
            state = State.PIECE;
            break;
          }
          if (side == 1) {
            if ("<>=".indexOf(c) < 0) return wrong;
            side = 2;
            state = State.FACTOR;
            break;
          }
          // the comparison is over, if this can stand behind a truth
        case TRUTH:
          while (!open.isEmpty() && open.peek() == '!') open.pop();
          if (c == '&' || c == '|') {
            state = State.PIECE;
          } else if (c == ')') {
            open.pop();
            state = open.isEmpty() ? State.END : State.TRUTH;
          } else {
            return wrong;
          }
          break;
        default:
          if (c == (char) 999) return 0;
          if (c != ';') return wrong;
          state = State.CLAUSE;
          break;
      }
    }
    return 0;
  }

  PlainLaw(String itsText) {
    text = itsText;
    while (at < text.length()) {
      Clause clause = new Clause();
      clause.letter = text.charAt(at++);
      clause.sum = sum();
      at++;
      clause.test = test();
      at += 2;
      clauses.add(clause);
    }
  }

  int answer(char letter, Map<Character, Integer> facts, int none) {
    for (Clause clause : clauses) {
      if (clause.letter == letter && asked(clause.test, facts) == 1) return asked(clause.sum, facts);
    }
    return none;
  }

  private static int asked(Node node, Map<Character, Integer> facts) {
    try {
      return node.of(facts);
    } catch (Refused refused) {
      return 0;
    }
  }

  private boolean next(char c) {
    if (at < text.length() && text.charAt(at) == c) {
      at++;
      return true;
    }
    return false;
  }

  private Node test() {
    Node left = part();
    while (next('|')) {
      Node a = left;
      Node b = part();
      left = f -> a.of(f) == 1 || b.of(f) == 1 ? 1 : 0;
    }
    return left;
  }

  private Node part() {
    Node left = piece();
    while (next('&')) {
      Node a = left;
      Node b = piece();
      left = f -> a.of(f) == 1 && b.of(f) == 1 ? 1 : 0;
    }
    return left;
  }

  private Node piece() {
    if (next('!')) {
      Node a = piece();
      return f -> a.of(f) == 1 ? 0 : 1;
    }
    if (next('(')) {
      Node a = test();
      at++;
      return a;
    }
    Node a = sum();
    char c = text.charAt(at++);
    Node b = sum();
    return f -> {
      int order = Integer.compare(a.of(f), b.of(f));
      return (c == '<' ? order < 0 : c == '>' ? order > 0 : order == 0) ? 1 : 0;
    };
  }

  private Node sum() {
    Node left = term();
    for (;;) {
      Node a = left;
      if (next('+')) {
        Node b = term();
        left = f -> a.of(f) + b.of(f);
      } else if (next('-')) {
        Node b = term();
        left = f -> a.of(f) - b.of(f);
      } else {
        return left;
      }
    }
  }

  private Node term() {
    Node left = factor();
    for (;;) {
      Node a = left;
      if (next('*')) {
        Node b = factor();
        left = f -> a.of(f) * b.of(f);
      } else if (next('/')) {
        Node b = factor();
        left = f -> divided(a.of(f), b.of(f), true);
      } else if (next('%')) {
        Node b = factor();
        left = f -> divided(a.of(f), b.of(f), false);
      } else {
        return left;
      }
    }
  }

  private static int divided(int a, int b, boolean whole) {
    if (b == 0) throw new Refused();
    return whole ? a / b : a % b;
  }

  private Node factor() {
    if (next('[')) {
      Node a = sum();
      at++;
      return a;
    }
    char c = text.charAt(at);
    if (c < '0' || c > '9') {
      at++;
      return f -> f.get(c);
    }
    int from = at;
    while (at < text.length() && text.charAt(at) >= '0' && text.charAt(at) <= '9') at++;
    int number = Integer.parseInt(text.substring(from, at));
    return f -> number;
  }
}
