import java.lang.reflect.Method;
import java.util.Arrays;
import java.util.HashMap;
import java.util.Map;
import java.util.Random;

/** Runs of chance calls (the same ones each time), each call answered by VanShelves and by PlainModel. */
public final class ModelRuns {
  private static final int CALLS = 512;

  /** A call's name, how often it comes, and what its arguments are (see argument()). */
  private static final String[] CALLS_TOLD = {
    "now 6 n", "book 6 klfp", "shelf 2 vL", "stop 5 xxh", "visit 8 sVm", "reader 6 sf", "taste 12 rkt", "had 3 rb",
    "wants 8 rb?", "visits 5 vsd", "move 40 bV", "lend 60 br", "back 30 bvr", "lost 2 b", "bookIs 3 bw", "readerIs 3 rw",
    "pays 2 rp", "ask 50 rbD", "unask 2 rb", "aboard 3 dv", "promise 8 rb", "whyNot 12 rb", "ring 6 w", "load 8 vuKq",
    "served 5 vSu", "least 3 w", "dull 3 vu", "onward 4 bu", "different 3 sd", "pace 1 f", "round 6 vdw", "went 3 sq",
    "lostDay 4 vDNM", "put 4 sq", "knownIn 1 N", "where 5 bdd", "counts 5 ws", "council 2 st", "count 5 c",
  };

  private static final Map<String, Method> real = new HashMap<>();
  private static final Map<String, Method> plain = new HashMap<>();
  private static int wrong = 0;

  private Random chance;
  private VanShelves x;
  private PlainModel m;
  private int run;
  private int call;
  private int[] rests;
  private int lastDay;
  private boolean deepOnes;

  public static void main(String[] args) throws Exception {
    int runs = args.length > 0 ? Integer.parseInt(args[0]) : 300;
    int first = args.length > 1 ? Integer.parseInt(args[1]) : 0;
    for (Method method : VanShelves.class.getDeclaredMethods()) real.put(method.getName(), method);
    for (Method method : PlainModel.class.getDeclaredMethods()) plain.putIfAbsent(method.getName(), method);
    for (Method method : PlainModel.class.getDeclaredMethods()) {
      Method face = real.get(method.getName());
      if (face != null && Arrays.equals(face.getParameterTypes(), method.getParameterTypes())) plain.put(method.getName(), method);
    }
    for (int i = first; i < first + runs && wrong < 10; i++) new ModelRuns().oneRun(i);
    System.out.println(wrong == 0 ? "model: all answers agree in " + runs + " runs" : "model: answers differ");
    if (wrong != 0) System.exit(1);
  }

  private void oneRun(int number) throws Exception {
    run = number;
    chance = new Random(7919L * number + 17);
    x = new VanShelves();
    m = new PlainModel();
    rests = new int[1 + chance.nextInt(5)];
    for (int i = 0; i < rests.length; i++) rests[i] = chance.nextInt(14);
    lastDay = 20 + chance.nextInt(180);
    begin();
    for (call = 0; call < CALLS - 170 && wrong < 10; call++) {
      int pick = chance.nextInt(100);
      if (pick < 3) tellLaw();
      else if (pick < 5) tellCheck();
      else if (pick < 7) both("feed", number(), number(), number(), number(), number());
      else chanceCall();
    }
  }

  private void begin() throws Exception {
    boolean crowded = run % 5 == 0;
    int stops = crowded ? 7 + chance.nextInt(4) : 1 + chance.nextInt(10);
    int width = chance.nextBoolean() ? 100 : 4;
    for (int i = 0; i < stops; i++) {
      both("stop", chance.nextInt(width), chance.nextInt(width), 1 + chance.nextInt(60));
      if (crowded && chance.nextInt(12) > 0) both("visit", i, 0, rests[0]);
      else if (chance.nextInt(5) > 0) both("visit", i, chance.nextInt(chance.nextBoolean() ? 3 : 1), rests[chance.nextInt(rests.length)]);
    }
    int readers = 1 + chance.nextInt(16);
    for (int i = 0; i < readers; i++) both("reader", chance.nextInt(stops), chance.nextInt(4) == 0 ? chance.nextInt(3) : 0);
    int books = 1 + chance.nextInt(32);
    for (int i = 0; i < books; i++) both("book", chance.nextInt(8), 1 + chance.nextInt(9), chance.nextInt(3), chance.nextInt(1001));
    for (int i = 0; i < 40; i++) both("taste", chance.nextInt(readers), chance.nextInt(8), chance.nextInt(10));
    for (int i = 0; i < 3; i++) both("shelf", i, 20 + chance.nextInt(80));
    tellLaw();
  }

  private void both(String name, Object... args) throws Exception {
    Object got = real.get(name).invoke(x, args);
    Object due = plain.get(name).invoke(m, args);
    if (!got.equals(due)) {
      wrong++;
      System.out.println("run " + run + " call " + call + ": " + name + Arrays.toString(args) + " answered " + got + ", the model says " + due);
    }
  }

  private void chanceCall() throws Exception {
    int all = 0;
    for (String told : CALLS_TOLD) all += Integer.parseInt(told.split(" ")[1]);
    int pick = chance.nextInt(all);
    for (String told : CALLS_TOLD) {
      String[] parts = told.split(" ");
      pick -= Integer.parseInt(parts[1]);
      if (pick >= 0) continue;
      Object[] args = new Object[parts[2].length()];
      for (int i = 0; i < args.length; i++) args[i] = argument(parts[2].charAt(i));
      if (chance.nextInt(4) > 0) aim(parts[0], args);
      both(parts[0], args);
      return;
    }
  }

  private Object argument(char what) {
    if (what == '?') return chance.nextBoolean();
    if (what == 'S') return chance.nextInt(20) == 0 ? chance.nextLong() : chance.nextLong() & ((1L << m.books.size()) - 1);
    if (chance.nextInt(60) == 0) return number();
    switch (what) {
      case 'b': return upTo(m.books.size());
      case 'r': return upTo(m.readers.size());
      case 's': return upTo(m.stops.size());
      case 'v': return upTo(3);
      case 'V': return chance.nextInt(8) == 0 ? -1 : upTo(3);
      case 'd': return chance.nextBoolean() ? m.now + chance.nextInt(30) - 10 : upTo(200);
      case 'D': return chance.nextInt(10) == 0 ? upTo(200) : visitedDay();
      case 'n': return chance.nextInt(6) == 0 ? Math.min(lastDay, m.now + chance.nextInt(4)) : nextRest();
      case 'm': return chance.nextInt(4) == 0 ? upTo(14) : rests[chance.nextInt(rests.length)];
      case 'k': return upTo(8);
      case 'l': return 1 + upTo(9);
      case 'L': return chance.nextInt(100);
      case 'f': return upTo(3);
      case 'p': return chance.nextInt(1002);
      case 'x': return upTo(100);
      case 'h': return 1 + upTo(200);
      case 't': return upTo(10);
      case 'w': return chance.nextInt(11) - 1;
      case 'q': return upTo(3);
      case 'u': return chance.nextBoolean() ? 1 : 1 + chance.nextInt(chance.nextBoolean() ? 60 : 1000);
      case 'K': return chance.nextInt(3) == 0 ? 0 : chance.nextInt(256);
      case 'N': return chance.nextInt(29);
      case 'M': return chance.nextBoolean() ? 1000 : 1 + chance.nextInt(500);
      default: return chance.nextInt(32);
    }
  }

  /** Makes a call likelier to be one that is not refused. */
  private void aim(String name, Object[] args) {
    int r = chanceReaderToday();
    int van = r < 0 ? -1 : vanAt(m.readers.get(r).stop, m.now);
    switch (name) {
      case "move": args[0] = chanceBook(0, 3, args[0]); break;
      case "lend":
        if (r >= 0) {
          args[0] = chanceBook(van + 1, van + 1, args[0]);
          args[1] = r;
        }
        break;
      case "back":
        args[0] = chanceBook(10, 25, args[0]);
        if (r >= 0) {
          args[1] = van;
          args[2] = r;
        }
        break;
      case "lost": args[0] = chanceBook(10, 25, args[0]); break;
      case "pays":
        for (int i = 0; i < m.readers.size(); i++) {
          if (m.readers.get(i).owed > 0) {
            args[0] = i;
            args[1] = chance.nextInt(m.readers.get(i).owed + 2);
          }
        }
        break;
      case "ask":
        if (chance.nextInt(3) > 0) args[1] = chanceBook(10, 25, args[1]);
        if (m.isR((int) args[0])) args[2] = chanceDayOf(m.readers.get((int) args[0]).stop, (int) args[2]);
        break;
      case "unask": case "whyNot": aimAtAsk(args); break;
      case "aboard":
        Object[] ask = {0, 0};
        if (aimAtAsk(ask)) {
          args[0] = m.readers.get((int) ask[0]).asks.get((int) ask[1]);
          args[1] = Math.max(0, vanAt(m.readers.get((int) ask[0]).stop, (int) args[0]));
        }
        break;
      case "ring": args[0] = chance.nextInt(4) - 1; break;
      case "load": case "served": if (r >= 0) args[0] = van; break;
      case "least": args[0] = chance.nextInt(3); break;
      case "visits": case "round":
        int day = 14 * chance.nextInt(14) + rests[chance.nextInt(rests.length)];
        args[name.equals("round") ? 1 : 2] = day;
        if (chance.nextBoolean()) args[0] = 0;
        break;
      case "lostDay":
        if (!m.stops.isEmpty()) {
          int stop = chance.nextInt(m.stops.size());
          args[1] = chanceDayOf(stop, (int) args[1]);
          args[0] = Math.max(0, vanAt(stop, (int) args[1]));
        }
        break;
      case "where":
        args[1] = m.now - chance.nextInt(20);
        args[2] = (int) args[1] + chance.nextInt(20);
        break;
      default: break;
    }
  }

  private int vanAt(int stop, int day) {
    for (int v = 0; v < 3; v++) if (m.goes(v, stop, day)) return v;
    return -1;
  }

  private int chanceReaderToday() {
    for (int i = 0; i < 30 && !m.readers.isEmpty(); i++) {
      int r = chance.nextInt(m.readers.size());
      if (m.visited(m.readers.get(r).stop, m.now)) return r;
    }
    return -1;
  }

  private Object chanceBook(int low, int high, Object other) {
    for (int i = 0; i < 60 && !m.books.isEmpty(); i++) {
      int b = chance.nextInt(m.books.size());
      if (m.books.get(b).place >= low && m.books.get(b).place <= high) return b;
    }
    return other;
  }

  private int chanceDayOf(int stop, int other) {
    for (int i = 0; i < 60; i++) {
      int day = m.now + chance.nextInt(45);
      if (day < 200 && m.visited(stop, day)) return day;
    }
    return other;
  }

  private boolean aimAtAsk(Object[] args) {
    for (int i = 0; i < 40 && !m.readers.isEmpty(); i++) {
      int r = chance.nextInt(m.readers.size());
      Object[] asked = m.readers.get(r).asks.keySet().toArray();
      if (asked.length == 0) continue;
      args[0] = r;
      args[1] = asked[chance.nextInt(asked.length)];
      return true;
    }
    return false;
  }

  private int number() {
    int[] edges = {-2, -1, 0, 1, 2, 199, 200, 255, 256, 1000, 1001, Integer.MAX_VALUE, Integer.MIN_VALUE};
    return chance.nextBoolean() ? edges[chance.nextInt(edges.length)] : chance.nextInt();
  }

  /** Now and then one more than there are. */
  private int upTo(int size) { return chance.nextInt(40) == 0 ? size : size == 0 ? 0 : chance.nextInt(size); }

  private int nextRest() {
    for (int day = m.now + 1; day < 200 && day <= lastDay; day++) for (int rest : rests) if (day % 14 == rest) return day;
    return m.now;
  }

  private int visitedDay() {
    int day = m.now;
    for (int i = 0; i < 30; i++) {
      day = m.now + chance.nextInt(30);
      for (int rest : rests) if (day % 14 == rest) return day;
    }
    return day;
  }

  private void feedBytes(byte[] bytes) throws Exception {
    for (int i = 0; i < bytes.length; i += 20) {
      int[] v = new int[5];
      for (int k = 0; k < 20; k++) v[k / 4] = v[k / 4] << 8 | (i + k < bytes.length ? bytes[i + k] & 255 : 0);
      both("feed", v[0], v[1], v[2], v[3], v[4]);
    }
  }

  private void emptyTape() throws Exception {
    if (m.tape.size() > 0) both("check", 0);
  }

  private void tellLaw() throws Exception {
    StringBuilder text = new StringBuilder();
    deepOnes = chance.nextInt(4) == 0;
    int clauses = 1 + chance.nextInt(chance.nextInt(6) == 0 ? 16 : 5);
    boolean brief = clauses > 6 && chance.nextBoolean();
    for (int i = 0; i < clauses; i++) {
      if (i > 0) text.append(';');
      if (brief) text.append("wdf".charAt(chance.nextInt(3))).append(chance.nextInt(9)).append("(t=").append(i % 10).append(')');
      else if (i == 0 && chance.nextInt(3) > 0) text.append(chance.nextBoolean() ? "wt(1=1)" : "w[t-k]*9+l(t>k|t>3)");
      else clause(text);
    }
    if (text.length() > 200) text.setLength(200);
    if (chance.nextInt(4) == 0) spoil(text);
    emptyTape();
    feedBytes(text.toString().getBytes("ISO-8859-1"));
    both("law", chance.nextInt(20) == 0 ? chance.nextInt(210) : text.length());
    both("count", 4);
    both("count", 5);
  }

  private void spoil(StringBuilder text) {
    String signs = "wdf()[]!&|<>=+-*/%;0123456789tklfpnhsbyxra ";
    int at = chance.nextInt(text.length());
    char c = signs.charAt(chance.nextInt(signs.length()));
    int how = chance.nextInt(3);
    if (how == 0) text.setCharAt(at, c);
    else if (how == 1 && text.length() > 1) text.deleteCharAt(at);
    else if (text.length() < 200) text.insert(at, c);
  }

  private void clause(StringBuilder text) {
    text.append("wwwwddff".charAt(chance.nextInt(8)));
    sum(text, 0);
    text.append('(');
    if (chance.nextInt(3) == 0) text.append("1=1");
    else test(text, 0);
    text.append(')');
  }

  private void test(StringBuilder text, int deep) {
    int many = 1 + chance.nextInt(3) / 2 + chance.nextInt(2);
    for (int i = 0; i < many; i++) {
      if (i > 0) text.append(chance.nextBoolean() ? '|' : '&');
      piece(text, deep);
    }
  }

  private void piece(StringBuilder text, int deep) {
    int pick = chance.nextInt(deepOnes ? 3 : 6);
    if (pick == 0 && deep < 6) {
      text.append('!');
      piece(text, deep + 1);
    } else if (pick == 1 && deep < 6) {
      text.append('(');
      test(text, deep + 1);
      text.append(')');
    } else {
      sum(text, deep);
      text.append("<>=".charAt(chance.nextInt(3)));
      sum(text, deep);
    }
  }

  private void sum(StringBuilder text, int deep) {
    int many = 1 + chance.nextInt(3);
    for (int i = 0; i < many; i++) {
      if (i > 0) text.append("++--*/%".charAt(chance.nextInt(7)));
      int pick = chance.nextInt(deepOnes ? 4 : 10);
      if (pick == 0 && deep < 6) {
        text.append('[');
        sum(text, deep + 1);
        text.append(']');
      } else if (pick < 4) {
        text.append(chance.nextInt(chance.nextInt(5) == 0 ? 100000 : 12));
      } else {
        text.append("tttklfpnhsbyxxr".charAt(chance.nextInt(15)));
      }
    }
  }

  private void tellCheck() throws Exception {
    emptyTape();
    int n = Math.min(33, Math.max(0, m.books.size() + (chance.nextInt(3) == 0 ? chance.nextInt(5) - 2 : 0)));
    byte[] bytes = new byte[12 * n];
    int spoilt = chance.nextInt(3) == 0 ? chance.nextInt(3 * n + 1) : -1;
    for (int i = 0; i < 3 * n; i++) {
      int b = i / 3;
      int v = i % 3 == 0 ? b : b >= m.books.size() ? 0 : i % 3 == 1 ? m.books.get(b).place : m.books.get(b).due;
      if (i == spoilt) v += 1 << chance.nextInt(32);
      for (int k = 0; k < 4; k++) bytes[4 * i + k] = (byte) (v >> 24 - 8 * k);
    }
    feedBytes(bytes);
    both("check", n);
    both("check", chance.nextInt(3) - 1);
  }
}
