import java.lang.reflect.Method;
import java.util.HashMap;
import java.util.Map;

/**
 * Calls on one new object told by lines, each with the answer that is due:
 * <pre>
 *   now(200) = false           a call and its answer (NONE, min and max are numbers, too)
 *   move(0, NONE)              a call whose answer does not matter here
 *   32 times book(%, 1, 0, 0) = %   % is 0, 1, 2 ..
 *   law w5(1=1);d9(1=1) = 2    the text fed to the tape, and law() of all of it
 *   tape 0 0 -1                numbers fed to the tape, filled up with 0 to fives
 *   # a remark
 * </pre>
 */
final class Script {
  private static final Map<String, Method> CALLS = new HashMap<>();

  static {
    for (Method method : VanShelves.class.getDeclaredMethods()) CALLS.put(method.getName(), method);
  }

  static int sentences = 0;
  static int wrong = 0;

  private final String sentence;
  final VanShelves x = new VanShelves();
  int calls = 0;

  Script(String sentence) { this.sentence = sentence; }

  /** A sentence of the document holds if each line of its script is answered as is due. */
  static void holds(String sentence, String... lines) {
    sentences++;
    Script script = new Script(sentence);
    for (String text : lines) for (String line : text.split("\n")) script.line(line.trim());
    if (script.calls > 512) script.fault(script.calls + " calls, but an object is good for 512");
  }

  static void end(String name) {
    System.out.println(name + ": " + sentences + " sentences, " + (wrong == 0 ? "all hold" : wrong + " answers are not as due"));
    if (wrong != 0) System.exit(1);
  }

  private void fault(String what) {
    wrong++;
    System.out.println("\"" + sentence + "\": " + what);
  }

  void line(String line) {
    if (line.isEmpty() || line.startsWith("#")) return;
    int times = 1;
    String rest = line;
    if (line.matches("\\d+ times .*")) {
      times = Integer.parseInt(line.substring(0, line.indexOf(' ')));
      rest = line.substring(line.indexOf(" times ") + 7);
    }
    for (int i = 0; i < times; i++) oneCall(times > 1 ? rest.replace("%", Integer.toString(i)) : rest);
  }

  private void oneCall(String told) {
    int mark = told.lastIndexOf(" = ");
    String call = mark < 0 ? told : told.substring(0, mark).trim();
    long got = call.startsWith("tape ") ? tape(call.substring(5)) : call.startsWith("law ") ? law(call.substring(4)) : answer(call);
    if (mark < 0) return;
    long due = number(told.substring(mark + 3).trim());
    if (got != due) fault(call + " answered " + got + ", due is " + due);
  }

  private long tape(String numbers) {
    String[] each = numbers.trim().split(" +");
    long size = 0;
    for (int i = 0; i < each.length; i += 5) {
      int[] v = new int[5];
      for (int k = 0; k < 5 && i + k < each.length; k++) v[k] = (int) number(each[i + k]);
      calls++;
      size = x.feed(v[0], v[1], v[2], v[3], v[4]);
    }
    return size;
  }

  private long law(String text) {
    StringBuilder numbers = new StringBuilder();
    for (int i = 0; i < text.length(); i += 4) {
      int v = 0;
      for (int k = 0; k < 4; k++) v = v << 8 | (i + k < text.length() ? text.charAt(i + k) & 255 : 0);
      numbers.append(v).append(' ');
    }
    tape(numbers.toString());
    calls++;
    return x.law(text.length());
  }

  /** The answer of a call told as in Java; true counts 1, false 0. */
  long answer(String call) {
    int open = call.indexOf('(');
    if (open < 0 || !call.endsWith(")")) throw new IllegalArgumentException("no call: " + call);
    Method method = CALLS.get(call.substring(0, open));
    if (method == null) throw new IllegalArgumentException("no such call: " + call);
    String inside = call.substring(open + 1, call.length() - 1).trim();
    String[] told = inside.isEmpty() ? new String[0] : inside.split(", *");
    Class<?>[] types = method.getParameterTypes();
    if (told.length != types.length) throw new IllegalArgumentException("other arguments are due: " + call);
    Object[] args = new Object[told.length];
    for (int i = 0; i < told.length; i++) {
      long v = number(told[i]);
      args[i] = types[i] == boolean.class ? (Object) (v != 0) : types[i] == long.class ? (Object) v : (Object) (int) v;
    }
    calls++;
    try {
      Object got = method.invoke(x, args);
      return got instanceof Boolean yes ? (yes ? 1 : 0) : ((Number) got).longValue();
    } catch (ReflectiveOperationException thrown) {
      fault(call + " threw " + thrown.getCause());
      return Long.MIN_VALUE;
    }
  }

  private static long number(String told) {
    switch (told) {
      case "NONE": return -1;
      case "true": return 1;
      case "false": return 0;
      case "max": return Integer.MAX_VALUE;
      case "min": return Integer.MIN_VALUE;
      default: return Long.parseLong(told);
    }
  }
}
