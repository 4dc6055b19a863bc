import java.util.ArrayList;
import java.util.List;

/**
 * "A call that is refused (NONE, false) changes nothing but the tape, where it is told."
 * A state is made by a script; then all that the face can tell of it is asked of an object on which a call was refused and
 * of one on which it was not. Since an object is good for 512 calls alone, the questions come by lots, each on new objects.
 */
public final class RefusedTest {
  private static final int LOT = 200;

  private static final List<List<String>> LOTS = lots();

  private static final String NEW = "";

  /** Something of all there is: books in the store, on vans, out, lost; asks, a ring, lost days, put stops, a law, a tape. */
  private static final String SOME = """
      stop(10, 0, 20)
      stop(0, 10, 30)
      stop(10, 10, 40)
      stop(30, 3, 10)
      visit(0, 0, 2)
      visit(1, 0, 2)
      visit(2, 1, 3)
      reader(0, 0)
      reader(0, 1)
      reader(1, 0)
      reader(2, 0)
      4 times taste(%, 0, 5)
      taste(1, 1, 9)
      8 times book(0, 3, 0, 60)
      book(1, 2, 1, 70)
      law wt*10+1(r<2);d5+h(k=0);fx*3+2(1=1) = 3
      knownIn(2)
      6 times move(%, 0)
      move(6, 1)
      move(8, 0)
      now(2)
      lend(0, 0) = 7
      lend(1, 2) = 7
      lend(2, 2) = 8
      shelf(0, 13)
      lost(2) = 60
      had(3, 3)
      ask(0, 1, 16) = true
      ask(2, 0, 16) = true
      ask(1, 3, 16) = true
      ask(3, 3, 17) = true
      lostDay(0, 30, 3, 900) = 2
      pace(3)
      feed(1, 2, 3, 4, 5)
      """;

  /** All that can be full is full: books, stops, readers, acts, the tape, a shelf. */
  private static final String FULL = """
      10 times stop(%, %, 5)
      10 times visit(%, 0, 0)
      9 times visit(%, 1, 1)
      16 times reader(0, 0)
      32 times book(0, 1, 0, 9)
      4 times move(%, 1)
      shelf(1, 4)
      visit(0, 0, 0)
      move(4, 0)
      move(5, 0)
      lend(4, 0) = 14
      """ + "move(6, 0) = true\nmove(6, 2) = true\n".repeat(96) + "move(6, 0) = true\n" + """
      count(6) = 200
      feed(1999972401, 1026631936, 0, 0, 0)
      19 times feed(7, 7, 7, 7, 7)
      """;

  /** A full tape that tells rightly of all books. */
  private static final String TOLD = "32 times book(0, 1, 0, 9)\ntape" + threes() + " 9 9 9 9\ncount(5) = 400\n";

  private static final String[] NEW_REFUSED = {
    "now(-1)", "now(200)", "book(8, 1, 0, 0)", "book(0, 0, 0, 0)", "shelf(3, 1)", "shelf(0, 100)", "stop(100, 0, 1)", "stop(0, 0, 0)",
    "visit(0, 0, 0)", "reader(0, 0)", "taste(0, 0, 0)", "had(0, 0)", "law(0)", "law(1)", "wants(0, 0, true)", "visits(0, 0, 0)",
    "move(0, 0)", "lend(0, 0)", "back(0, 0, 0)", "lost(0)", "bookIs(0, 0)", "readerIs(0, 0)", "pays(0, 1)", "ask(0, 0, 0)",
    "unask(0, 0)", "aboard(0, 3)", "promise(0, 0)", "whyNot(0, 0)", "ring(0)", "load(3, 1, 0, 0)", "served(0, 1, 1)", "least(0)",
    "dull(0, 0)", "onward(0, 1)", "different(0, 0)", "pace(0)", "pace(10)", "round(0, 0, 0)", "went(0, 0)", "lostDay(0, 0, 0, 1)",
    "put(0, 0)", "knownIn(21)", "where(0, 0, 0)", "counts(0, 0)", "council(0, 1)", "count(9)",
  };

  private static final String[] SOME_REFUSED = {
    "now(1)", "now(-1)", "now(200)", "now(min)", "book(-1, 1, 0, 0)", "book(8, 1, 0, 0)", "book(0, 0, 0, 0)", "book(0, 10, 0, 0)",
    "book(0, 1, -1, 0)", "book(0, 1, 3, 0)", "book(0, 1, 0, -1)", "book(0, 1, 0, 1001)",
    "shelf(-1, 30)", "shelf(3, 30)", "shelf(0, -1)", "shelf(0, 100)", "shelf(0, 10)", "shelf(1, 2)",
    "stop(-1, 0, 1)", "stop(100, 0, 1)", "stop(0, -1, 1)", "stop(0, 100, 1)", "stop(0, 0, 0)", "stop(0, 0, 201)",
    "visit(-1, 0, 0)", "visit(4, 0, 0)", "visit(0, -2, 0)", "visit(0, 3, 0)", "visit(0, 0, -1)", "visit(0, 0, 14)",
    "visit(0, -1, -1)", "visit(0, -1, 14)", "reader(-1, 0)", "reader(4, 0)", "reader(0, -1)", "reader(0, 3)",
    "taste(-1, 0, 1)", "taste(4, 0, 1)", "taste(0, -1, 1)", "taste(0, 8, 1)", "taste(0, 0, -1)", "taste(0, 0, 10)",
    "had(-1, 0)", "had(4, 0)", "had(0, -1)", "had(0, 9)", "had(0, 0)", "had(3, 3)",
    "law(0)", "law(-1)", "law(21)", "law(201)", "wants(-1, 0, true)", "wants(4, 0, true)", "wants(0, -1, true)", "wants(0, 9, true)",
    "visits(-1, 0, 0)", "visits(3, 0, 0)", "visits(0, 4, 0)", "visits(0, 0, 200)",
    "move(-1, 0)", "move(9, 0)", "move(3, -2)", "move(3, 3)", "move(0, 1)", "move(0, -1)", "move(2, 1)", "move(2, -1)", "move(3, 0)",
    "move(7, -1)", "move(7, 0)", "move(6, 0)", "lend(-1, 0)", "lend(9, 0)", "lend(3, -1)", "lend(3, 4)", "lend(7, 0)", "lend(0, 1)", "lend(2, 0)", "lend(3, 3)",
    "lend(6, 0)", "lend(6, 3)", "back(-1, 0, 0)", "back(9, 0, 0)", "back(0, -1, 0)", "back(0, 3, 0)", "back(0, 0, -1)", "back(0, 0, 4)",
    "back(0, 0, 0)", "back(0, 0, 1)", "back(0, 1, 0)", "back(0, 0, 3)", "back(0, 1, 3)", "back(3, 0, 0)", "back(7, 0, 0)", "back(2, 0, 2)",
    "lost(-1)", "lost(9)", "lost(3)", "lost(7)", "lost(2)", "bookIs(-1, 0)", "bookIs(9, 0)", "bookIs(0, 5)", "bookIs(0, -1)",
    "readerIs(-1, 0)", "readerIs(4, 0)", "readerIs(0, 5)", "readerIs(0, -1)",
    "pays(-1, 1)", "pays(4, 1)", "pays(0, 1)", "pays(2, 0)", "pays(2, -1)", "pays(2, 61)", "pays(2, max)",
    "ask(-1, 3, 16)", "ask(4, 3, 16)", "ask(0, -1, 16)", "ask(0, 9, 16)", "ask(0, 3, 1)", "ask(0, 3, 200)", "ask(0, 3, 15)",
    "ask(0, 3, 30)", "ask(0, 0, 16)", "ask(0, 1, 2)", "ask(1, 3, 16)", "unask(-1, 0)", "unask(4, 0)", "unask(0, -1)", "unask(0, 9)",
    "unask(0, 3)", "unask(3, 1)", "aboard(-1, 0)", "aboard(200, 0)", "aboard(2, -1)", "aboard(2, 3)",
    "promise(-1, 0)", "promise(4, 0)", "promise(0, -1)", "promise(0, 9)", "whyNot(-1, 0)", "whyNot(0, 9)", "whyNot(0, 3)",
    "ring(2)", "ring(-2)", "load(-1, 1, 0, 0)", "load(0, 0, 0, 0)", "load(0, 1001, 0, 0)", "load(0, 1, 256, 0)", "load(0, 1, 0, 3)",
    "served(-1, 1, 1)", "served(0, 512, 1)", "served(0, -1, 1)", "served(0, 1, 0)", "least(3)", "least(-1)", "dull(3, 1)", "dull(0, 0)",
    "onward(9, 1)", "onward(0, 0)", "different(4, 0)", "different(3, 0)", "different(0, 200)", "pace(0)", "pace(10)", "pace(-1)",
    "round(3, 2, 0)", "round(0, 200, 0)", "round(0, 2, 9)", "round(0, 2, 2)", "went(4, 0)", "went(0, 3)",
    "lostDay(-1, 16, 5, 900)", "lostDay(3, 16, 5, 900)", "lostDay(0, 1, 5, 900)", "lostDay(0, 200, 5, 900)", "lostDay(0, 16, 0, 900)",
    "lostDay(0, 16, 29, 900)", "lostDay(0, 16, 5, 0)", "lostDay(0, 16, 5, 1001)", "lostDay(0, 30, 5, 900)", "put(4, 0)", "put(0, 2)",
    "put(2, 0)", "knownIn(-1)", "knownIn(21)", "where(9, 0, 0)", "where(0, 3, 3)", "where(0, 2, 1)", "where(0, 2, 200)",
    "counts(6, 0)", "counts(0, 4)", "council(0, 0)", "council(0, 17)", "council(4, 1)", "check(2)", "check(-1)", "check(max)", "count(9)",
  };

  private static final String[] FULL_REFUSED = {
    "book(0, 1, 0, 0)", "stop(0, 0, 1)", "reader(0, 0)", "feed(1, 2, 3, 4, 5)", "law(201)", "law(400)", "check(34)", "shelf(1, 3)",
    "shelf(0, 1)", "shelf(2, -1)", "move(6, 2)", "move(7, 0)", "move(6, -1)", "lend(5, 0)", "lend(6, 1)", "back(4, 0, 0)",
    "back(4, 0, 1)", "lost(4)", "lost(32)", "had(0, 4)", "had(16, 0)", "had(0, 32)", "taste(16, 0, 1)", "visit(10, 0, 0)", "count(30)",
    "served(0, 4294967296, 1)", "served(0, -1, 1)",
  };

  private static final String[] TOLD_REFUSED = {"feed(1, 2, 3, 4, 5)", "law(0)", "law(201)", "law(400)", "check(34)", "check(-1)", "book(0, 1, 0, 0)"};

  private static int wrong = 0;
  private static int calls = 0;

  public static void main(String[] args) {
    refuse("a new object", NEW, NEW_REFUSED);
    refuse("some of all", SOME, SOME_REFUSED);
    refuse("all full", FULL, FULL_REFUSED);
    refuse("a full tape", TOLD, TOLD_REFUSED);
    System.out.println("refused: " + calls + " calls, " + (wrong + Script.wrong == 0 ? "none changed anything" : "some are not as due"));
    if (wrong + Script.wrong != 0) System.exit(1);
  }

  private static void refuse(String name, String state, String[] refused) {
    List<Long> before = answers(name, state, null);
    for (String call : refused) {
      calls++;
      Script one = made(name, state);
      long answer = one.answer(call);
      boolean yesOrNo = call.matches("(now|shelf|visit|taste|had|move|ask|unask|pace|knownIn)\\(.*");
      long due = yesOrNo ? 0 : call.startsWith("check(") ? -2 : -1;
      if (answer != due) fault(name + ": " + call + " answered " + answer + ", due is " + due);
      List<Long> after = answers(name, state, call);
      for (int i = 0; i < before.size(); i++) {
        if (before.get(i).equals(after.get(i))) continue;
        fault(name + ": behind " + call + " " + question(i) + " answered " + after.get(i) + ", before " + before.get(i));
        break;
      }
    }
  }

  private static String question(int number) {
    int rest = number;
    for (List<String> lot : LOTS) {
      if (rest < lot.size()) return lot.get(rest);
      rest -= lot.size();
    }
    return "?";
  }

  private static void fault(String what) {
    wrong++;
    System.out.println(what);
  }

  private static String threes() {
    StringBuilder all = new StringBuilder();
    for (int b = 0; b < 32; b++) all.append(' ').append(b).append(" 0 NONE");
    return all.toString();
  }

  private static Script made(String name, String state) {
    Script script = new Script(name);
    for (String line : state.split("\n")) script.line(line.trim());
    return script;
  }

  private static List<Long> answers(String name, String state, String refused) {
    List<Long> answers = new ArrayList<>();
    for (List<String> lot : LOTS) {
      Script script = made(name, state);
      if (refused != null) script.answer(refused);
      for (String question : lot) answers.add(script.answer(question));
      if (script.calls > 512) fault(name + ": " + script.calls + " calls, but an object is good for 512");
    }
    return answers;
  }

  /** Questions by lots that one object can answer, then calls that show what no question does. */
  private static List<List<String>> lots() {
    List<List<String>> lots = new ArrayList<>();
    List<String> all = questions();
    for (int i = 0; i < all.size(); i += LOT) lots.add(all.subList(i, Math.min(all.size(), i + LOT)));
    lots.add(List.of("law(7)", "count(4)", "count(5)"));
    lots.add(List.of("law(20)", "count(4)", "count(5)", "feed(0, 0, 0, 0, 0)"));
    lots.add(List.of("check(1)", "count(5)", "check(0)"));
    lots.add(List.of("check(32)", "count(5)"));
    lots.add(List.of("check(33)", "count(5)"));
    lots.add(List.of("move(7, 2)", "where(7, 2, 2)", "where(7, 2, 3)", "where(7, 2, 4)", "where(7, 2, 5)", "count(6)"));
    lots.add(List.of("move(7, 0)", "shelf(0, 14)", "move(7, 0)", "shelf(0, 11)", "move(6, 0)"));
    lots.add(List.of("move(7, 1)", "move(0, 1)", "move(3, 1)", "move(4, 1)", "move(5, 1)", "move(8, 1)", "count(11)"));
    lots.add(List.of("book(7, 1, 0, 0)", "stop(1, 1, 1)", "reader(0, 0)", "feed(1, 1, 1, 1, 1)", "count(5)"));
    lots.add(List.of("lostDay(0, 16, 3, 300)", "put(0, 0)", "put(1, 1)", "lostDay(1, 31, 28, 1000)", "put(0, 0)", "put(2, 0)", "count(8)"));
    lots.add(List.of("now(16)", "back(0, 0, 0)", "shelf(0, 14)", "back(0, 0, 1)", "bookIs(0, 3)", "lend(0, 2)", "readerIs(0, 2)"));
    return lots;
  }

  private static void add(List<String> all, String what, int from, int to, String... calls) {
    for (int i = from; i <= to; i++) for (String call : calls) all.add(call.replace(what, Integer.toString(i)));
  }

  private static List<String> questions() {
    List<String> all = new ArrayList<>();
    add(all, "#", 0, 29, "count(#)");
    add(all, "#", 0, 31, "bookIs(#, 0)", "bookIs(#, 1)", "bookIs(#, 2)", "bookIs(#, 3)", "bookIs(#, 4)");
    add(all, "#", 0, 15, "readerIs(#, 0)", "readerIs(#, 1)", "readerIs(#, 2)", "readerIs(#, 3)", "readerIs(#, 4)");
    for (int r = 0; r < 4; r++) {
      add(all, "#", 0, 8, "wants(" + r + ", #, false)", "wants(" + r + ", #, true)", "promise(" + r + ", #)", "whyNot(" + r + ", #)");
    }
    for (int van = 0; van < 3; van++) {
      add(all, "#", 0, 33, "round(" + van + ", #, -1)", "round(" + van + ", #, 8)", "round(" + van + ", #, 0)", "aboard(#, " + van + ")");
    }
    add(all, "#", 0, 2, "dull(#, 1)", "load(#, 1, 255, 0)", "load(#, 1, 0, 1)", "served(#, 31, 1)", "counts(2, #)", "least(#)");
    add(all, "#", 0, 9, "visits(0, #, 2)", "visits(1, #, 31)", "went(#, 0)", "went(#, 1)", "went(#, 2)", "put(#, 0)", "put(#, 1)");
    add(all, "#", 0, 9, "counts(0, #)", "counts(3, #)", "counts(4, #)", "different(#, 2)", "council(#, 1)");
    add(all, "#", 0, 7, "counts(1, #)");
    add(all, "#", -1, 3, "ring(#)");
    add(all, "#", 0, 8, "where(#, 0, 0)", "where(#, 0, 2)", "where(#, 2, 3)", "where(#, 2, 4)", "onward(#, 1)");
    return all;
  }
}
