/** For each promise of the document ordinary inputs, the edges that it names, and wrong inputs; answers reckoned by hand. */
public final class PromisesTest {
  private static int wrong = 0;
  private static int promise = 0;

  private static void due(String call, long got, long want) {
    if (got != want) {
      wrong++;
      System.out.println("promise " + promise + ": " + call + " answered " + got + ", due is " + want);
    }
  }

  private static void due(String call, boolean got, boolean want) { due(call, got ? 1 : 0, want ? 1 : 0); }

  /** Puts a text behind the tape, which must be empty, and makes it the law. */
  private static int law(VanShelves x, String text) {
    feedText(x, text);
    return x.law(text.length());
  }

  private static void feedText(VanShelves x, String text) {
    int[] v = new int[(text.length() + 19) / 20 * 5];
    for (int i = 0; i < text.length(); i++) v[i / 4] |= (text.charAt(i) & 255) << 24 - i % 4 * 8;
    for (int i = 0; i < v.length; i += 5) x.feed(v[i], v[i + 1], v[i + 2], v[i + 3], v[i + 4]);
  }

  /** Stops 0 (10, 0) and 1 (0, 10) by van 0 on days 2, stop 2 (10, 10) by van 1 on days 3; readers 0, 1 of 0; 2 of 1; 3 of 2. */
  private static VanShelves small() {
    VanShelves x = new VanShelves();
    x.stop(10, 0, 20);
    x.stop(0, 10, 30);
    x.stop(10, 10, 40);
    x.visit(0, 0, 2);
    x.visit(1, 0, 2);
    x.visit(2, 1, 3);
    x.reader(0, 0);
    x.reader(0, 0);
    x.reader(1, 0);
    x.reader(2, 0);
    return x;
  }

  private static String times(String text, int n) {
    StringBuilder all = new StringBuilder();
    for (int i = 0; i < n; i++) all.append(text);
    return all.toString();
  }

  public static void main(String[] args) {
    newObject(); now(); book(); shelf(); stop(); visit(); reader(); taste(); had(); feed();
    lawFaults(); lawRight(); wants(); wantsLetters(); wantsRefused(); visits(); move(); lend(); back(); fines(); lost();
    bookIs(); readerIs(); pays(); ask(); unask(); aboard(); promise(); whyNot(); ring(); load(); loadEdges(); served();
    least(); dull(); onward(); different(); pace(); round(); went(); lostDay(); crowdedDays(); put(); knownIn(); where();
    counts(); council(); check(); count(); acts();
    System.out.println(wrong == 0 ? "promises: all answers are as due" : "promises: " + wrong + " answers are not as due");
    if (wrong != 0) System.exit(1);
  }

  private static void newObject() {
    promise = 1;
    VanShelves x = new VanShelves();
    for (int what = 0; what <= 8; what++) due("count(" + what + ")", x.count(what), 0);
    due("shelf 30 at first", x.book(0, 9, 0, 0) + x.book(0, 9, 0, 0) + x.book(0, 9, 0, 0) + x.book(0, 4, 0, 0), 6);
    due("move", x.move(0, 2) && x.move(1, 2) && x.move(2, 2), true);
    due("move beyond 30", x.move(3, 2), false);
    due("NONE", VanShelves.NONE, -1);
  }

  private static void now() {
    promise = 2;
    VanShelves x = new VanShelves();
    due("now(-1)", x.now(-1), false);
    due("now(0)", x.now(0), true);
    due("now(7)", x.now(7), true);
    due("now(7)", x.now(7), true);
    due("now(6)", x.now(6), false);
    due("count(0)", x.count(0), 7);
    due("now(200)", x.now(200), false);
    due("now(199)", x.now(199), true);
    due("now(max)", x.now(Integer.MAX_VALUE), false);
    due("count(0)", x.count(0), 199);
  }

  private static void book() {
    promise = 3;
    VanShelves x = new VanShelves();
    int[][] bad = {{-1, 1, 0, 0}, {8, 1, 0, 0}, {0, 0, 0, 0}, {0, 10, 0, 0}, {0, 1, -1, 0}, {0, 1, 3, 0}, {0, 1, 0, -1}, {0, 1, 0, 1001}};
    for (int[] b : bad) due("book", x.book(b[0], b[1], b[2], b[3]), -1);
    for (int i = 0; i < 32; i++) due("book", x.book(i % 8, 1 + i % 9, i % 3, i == 0 ? 1000 : 0), i);
    due("book 33rd", x.book(0, 1, 0, 0), -1);
    due("count(1)", x.count(1), 32);
    due("bookIs(31, 0)", x.bookIs(31, 0), 0);
  }

  private static void shelf() {
    promise = 4;
    VanShelves x = new VanShelves();
    x.book(0, 9, 0, 0);
    due("shelf(-1, 5)", x.shelf(-1, 5), false);
    due("shelf(3, 5)", x.shelf(3, 5), false);
    due("shelf(0, -1)", x.shelf(0, -1), false);
    due("shelf(0, 100)", x.shelf(0, 100), false);
    due("shelf(0, 99)", x.shelf(0, 99), true);
    due("shelf(1, 0)", x.shelf(1, 0), true);
    due("move(0, 1)", x.move(0, 1), false);
    due("move(0, 0)", x.move(0, 0), true);
    due("shelf(0, 8)", x.shelf(0, 8), false);
    due("shelf(0, 9)", x.shelf(0, 9), true);
  }

  private static void stop() {
    promise = 5;
    VanShelves x = new VanShelves();
    int[][] bad = {{-1, 0, 1}, {100, 0, 1}, {0, -1, 1}, {0, 100, 1}, {0, 0, 0}, {0, 0, 201}};
    for (int[] b : bad) due("stop", x.stop(b[0], b[1], b[2]), -1);
    for (int i = 0; i < 10; i++) due("stop", x.stop(99, 99, i == 0 ? 200 : 1), i);
    due("stop 11th", x.stop(0, 0, 1), -1);
    due("count(2)", x.count(2), 10);
  }

  private static void visit() {
    promise = 6;
    VanShelves x = new VanShelves();
    due("visit without a stop", x.visit(0, 0, 0), false);
    x.stop(1, 1, 1);
    due("visit(-1, 0, 0)", x.visit(-1, 0, 0), false);
    due("visit(0, -2, 0)", x.visit(0, -2, 0), false);
    due("visit(0, 3, 0)", x.visit(0, 3, 0), false);
    due("visit(0, 0, -1)", x.visit(0, 0, -1), false);
    due("visit(0, 0, 14)", x.visit(0, 0, 14), false);
    due("visit(0, 2, 13)", x.visit(0, 2, 13), true);
    due("visits(2, 0, 195)", x.visits(2, 0, 195), 1);
    due("visit(0, 1, 5)", x.visit(0, 1, 5), true);
    due("the one before is gone", x.visits(2, 0, 13), 0);
    due("visits(1, 0, 5)", x.visits(1, 0, 5), 1);
    due("visit(0, NONE, 0)", x.visit(0, -1, 0), true);
    due("none any more", x.visits(1, 0, 5), 0);
  }

  private static void reader() {
    promise = 7;
    VanShelves x = new VanShelves();
    due("reader without a stop", x.reader(0, 0), -1);
    x.stop(1, 1, 1);
    due("reader(-1, 0)", x.reader(-1, 0), -1);
    due("reader(1, 0)", x.reader(1, 0), -1);
    due("reader(0, -1)", x.reader(0, -1), -1);
    due("reader(0, 3)", x.reader(0, 3), -1);
    for (int i = 0; i < 16; i++) due("reader", x.reader(0, i % 3), i);
    due("reader 17th", x.reader(0, 0), -1);
    due("count(3)", x.count(3), 16);
    due("count(20)", x.count(20), 16);
  }

  private static void taste() {
    promise = 8;
    VanShelves x = small();
    x.book(7, 1, 0, 0);
    law(x, "wt(1=1)");
    int[][] bad = {{-1, 0, 0}, {4, 0, 0}, {0, -1, 0}, {0, 8, 0}, {0, 0, -1}, {0, 0, 10}};
    for (int[] b : bad) due("taste", x.taste(b[0], b[1], b[2]), false);
    due("0 at first", x.wants(0, 0, false), 0);
    due("taste(0, 7, 9)", x.taste(0, 7, 9), true);
    due("wants", x.wants(0, 0, false), 9);
    due("taste(0, 7, 4)", x.taste(0, 7, 4), true);
    due("taste(0, 6, 8)", x.taste(0, 6, 8), true);
    due("wants", x.wants(0, 0, false), 4);
    due("wants of another", x.wants(1, 0, false), 0);
  }

  private static void had() {
    promise = 9;
    VanShelves x = small();
    x.book(0, 1, 0, 0);
    due("had(-1, 0)", x.had(-1, 0), false);
    due("had(4, 0)", x.had(4, 0), false);
    due("had(0, -1)", x.had(0, -1), false);
    due("had(0, 1)", x.had(0, 1), false);
    due("had(0, 0)", x.had(0, 0), true);
    due("had(0, 0) again", x.had(0, 0), false);
    due("had(3, 0)", x.had(3, 0), true);
    due("readerIs(0, 3)", x.readerIs(0, 3), 1);
    due("readerIs(1, 3)", x.readerIs(1, 3), 0);
    due("bookIs(0, 4)", x.bookIs(0, 4), 2);
    due("no loan", x.readerIs(0, 1), 0);
  }

  private static void feed() {
    promise = 10;
    VanShelves x = new VanShelves();
    for (int i = 1; i <= 20; i++) due("feed", x.feed(i, -1, 0, 0, 0), 20 * i);
    due("feed beyond 400", x.feed(0, 0, 0, 0, 0), -1);
    due("count(5)", x.count(5), 400);
    due("check(0): no books, right", x.check(0), -1);
    due("count(5)", x.count(5), 0);
    x.feed(0x77352831, 0x3D312900, 0, 0, 0);
    due("the highest byte first: w5(1=1)", x.law(7), 1);
  }

  private static void lawFaults() {
    promise = 11;
    VanShelves x = new VanShelves();
    due("right one", law(x, "w7(1=1)"), 1);
    String[] texts = {
      "", "q", "W1(1=1)", "w", "w1", "w1(", "w1(1", "w1(1=", "w1(1=1", "w1(1=1)x", "w1(1=1);", "w1(1=1);;", "w 1(1=1)",
      "w1)1=1)", "w(1=1)", "w1[(1=1)", "w[1(1=1)", "w[](1=1)", "w[1]]", "w1()", "w1(1)", "w1((1)=1)", "w1(1==1)", "w1(1<>1)",
      "w1(1=1=1)", "w1(1=1&)", "w1(1=1|&1=1)", "w1(!)", "w1(!!1)", "w-1(1=1)", "w1+(1=1)", "w1*/2(1=1)", "wtk(1=1)",
      "wt5(1=1)", "w5t(1=1)", "w1(1=1)&", "w1(1=1)(1=1)", "w1(c=1)", "w1(1=1);z", "w99999(1=1)", "w100000(1=1)", "w000001(1=1)",
      "w1(1=123456)", "w1([123456", "w1(1=1)\u00e9",
    };
    int[] due = {
      -1, -1000, -1000, -1001, -1002, -1003, -1004, -1005, -1006, -1007, -1008, -1008, -1001,
      -1002, -1001, -1002, -1003, -1002, -1004, -1003, -1004, -1005, -1005, -1005,
      -1006, -1007, -1007, -1004, -1006, -1001, -1003, -1003, -1002,
      -1002, -1002, -1007, -1007, -1003, -1008, 1, -2006, -2006,
      -2010, -2009, -1007,
    };
    for (int i = 0; i < texts.length; i++) {
      due("law of " + texts[i], law(x, texts[i]), due[i]);
    }
    promise = 11;
    due("six open", law(x, "w[[[[[[1]]]]]]((((((1=1))))))"), 1);
    due("seventh [ of the sum", law(x, "w[[[[[[[1"), -5007);
    due("seventh (", law(x, "w1(((((((1=1"), -5008);
    due("seventh !", law(x, "w1(!!!!!!1=1)"), -5008);
    due("six with !", law(x, "w1(!!!!!1=1)"), 1);
    due("[ behind six open", law(x, "w1(!!!!![1]=1)"), -5008);
    due("[ right of them", law(x, "w1(!!!!!1=[1])"), -5010);
    due("! ends with its piece", law(x, "w1(!1=1&!1=1&!1=1&!1=1&!1=1&!1=1|!1=1)"), 1);
    due("! of a (C) ends with it", law(x, "w1(!(!(1=1)|1=1)&!(!([1]=1)))"), 1);
    due("closed ones do not count", law(x, "w[1]+[1]+[1]+[1]+[1]+[1]+[1](1=1)"), 1);
    due("what can't stand there before 5", law(x, "w[[[[[[("), -1007);
    due("14 clauses", law(x, times("w1(1=1);", 13) + "w1(1=1)"), 14);
    due("15 clauses", law(x, times("w1(1=1);", 14) + "w1(1=1)"), -4112);
    due("15th letter wrong", law(x, times("w1(1=1);", 14) + "x"), -1112);
    due("15th letter lacking", law(x, times("w1(1=1);", 14)), -1112);
    due("count(4): the one before stays", x.count(4), 14);
  }

  private static void lawRight() {
    promise = 11;
    VanShelves x = small();
    x.book(0, 1, 0, 0);
    due("law(1): nothing there", x.law(1), -1);
    feedText(x, "w7(1=1);d9(1=1)");
    due("law(0)", x.law(0), -1);
    due("law(-1)", x.law(-1), -1);
    due("law(21): has not so many", x.law(21), -1);
    due("count(5): the tape stays", x.count(5), 20);
    due("law(7): the first n bytes alone", x.law(7), 1);
    due("count(5): empty then", x.count(5), 0);
    due("wants", x.wants(0, 0, false), 7);
    due("a fault", law(x, "w8(1=1"), -1006);
    due("count(5): empty then, too", x.count(5), 0);
    due("the text before stays", x.wants(0, 0, false), 7);
    String longest = "w1" + times("+1", 96) + "(11=11)";
    due("201 bytes", longest.length(), 201);
    feedText(x, longest);
    due("law(201)", x.law(201), -1);
    due("count(5)", x.count(5), 220);
    due("law(200): the end is lacking", x.law(200), -1200);
    due("200 bytes", law(x, "w1" + times("+1", 96) + "(1=11)"), 1);
    due("its C does not hold", x.wants(0, 0, false), 0);
    due("200 bytes", law(x, "w1" + times("+1", 96) + "(11>1)"), 1);
    due("wants", x.wants(0, 0, false), 97);
  }

  private static void wants() {
    promise = 12;
    VanShelves x = small();
    x.reader(0, 1);
    x.reader(0, 2);
    x.book(0, 1, 0, 0);
    x.book(0, 1, 1, 0);
    x.book(0, 1, 2, 0);
    due("no law", x.wants(0, 0, false), 0);
    due("law", law(x, "w5(k=1);w6(k=0);w7(1=1)"), 3);
    due("wants(-1, 0)", x.wants(-1, 0, false), -1);
    due("wants(6, 0)", x.wants(6, 0, true), -1);
    due("wants(0, -1)", x.wants(0, -1, false), -1);
    due("wants(0, 3)", x.wants(0, 3, false), -1);
    due("the first whose C holds", x.wants(0, 0, false), 6);
    for (int r = 0; r < 6; r++) {
      for (int b = 0; b < 3; b++) {
        boolean fits = r < 4 || b == r - 3;
        due("form: wants(" + r + ", " + b + ")", x.wants(r, b, true), fits ? 6 : 0);
      }
    }
    x.had(0, 0);
    due("had", x.wants(0, 0, false), 0);
    due("had, again", x.wants(0, 0, true), 6);
    due("bounds", law(x, "w99999(1=1)"), 1);
    due("above 1000", x.wants(1, 0, false), 1000);
    due("bounds", law(x, "w0-1(1=1)"), 1);
    due("below 0", x.wants(1, 0, false), 0);
    due("law", law(x, "w5(k=1);d6(1=1)"), 2);
    due("no clause holds", x.wants(1, 0, false), 0);
  }

  private static void wantsLetters() {
    promise = 12;
    VanShelves x = small();
    x.book(3, 4, 2, 321);
    x.book(3, 2, 0, 10);
    x.book(3, 2, 0, 10);
    x.taste(1, 3, 8);
    x.now(2);
    x.move(1, 0);
    x.lend(1, 1);
    x.had(1, 2);
    x.had(0, 0);
    x.had(2, 0);
    String letters = "tklfpnhsbyxr";
    int[] due = {8, 3, 4, 2, 321, 2, 1, 0, 0, 2, 0, 1};
    for (int i = 0; i < due.length; i++) {
      law(x, "w" + letters.charAt(i) + "(1=1)");
      due("letter " + letters.charAt(i), x.wants(1, 0, false), due[i]);
    }
    law(x, "wr+10*s(1=1)");
    due("readers of their stop who had it, the stop", x.wants(2, 0, true), 11);
    law(x, "wb(1=1)");
    due("the book's number", x.wants(0, 2, false), 2);
    String[] sums = {
      "w20-3-2", "w20-3*4+1", "w100/7/2", "w100%7*3", "w7*[3+2]", "w0-7/2+100", "w0-[7%4]+100", "w[0-7]%4+100", "w99999*99999/999",
      "w99999*99999*0+5",
    };
    int[] worth = {15, 9, 7, 6, 35, 97, 97, 97, 1000, 5};
    for (int i = 0; i < sums.length; i++) {
      due("law", law(x, sums[i] + "(1=1)"), 1);
      due(sums[i], x.wants(0, 1, false), worth[i]);
    }
    law(x, "w99999*99999-14098*[99999+1]-65409+7(1=1)");
    due("32 bits wrap: 9999800001 is 1409865409", x.wants(0, 1, false), 7);
    String[] tests = {
      "2<2", "2>2", "1<2", "2<1", "2>1", "1>2", "1=1", "1=2", "!1=2", "!1=1", "!!1=1", "1=1&1=2", "1=2|1=1", "1=1|1=1&1=2", "(1=1|1=1)&1=2",
      "!1=2&1=1", "!(1=2&1=1)", "1=2&1=1|1=1", "0-1<1", "1=2|1=2|1=1", "1=1&1=1&1=2",
    };
    int[] holds = {0, 0, 1, 0, 1, 0, 1, 0, 1, 0, 1, 0, 1, 1, 0, 1, 1, 1, 1, 1, 0};
    for (int i = 0; i < tests.length; i++) {
      law(x, "w1(" + tests[i] + ")");
      due(tests[i], x.wants(0, 1, false), holds[i]);
    }
  }

  private static void wantsRefused() {
    promise = 12;
    VanShelves x = small();
    x.book(0, 1, 0, 0);
    String[] laws = {
      "w5+1/0(1=1)", "w5+[1%0]*0(1=1);w9(1=1)", "w5(1/0=0);w9(1=1)", "w5(!1/0=0);w9(1=1)", "w5(!(1/0=0));w9(1=1)",
      "w5(1=1|1/0=0);w9(1=1)", "w5(1/0=0|1=1);w9(1=1)", "w5(1=2&1/0=0|1=1);w9(1=1)", "w5(1=1&1/0=0|1=1);w9(1=1)",
      "w5(!(1=1|1%0=0));w9(1=1)", "w5(!(1=2&1%0=0));w9(1=1)",
    };
    int[] due = {0, 0, 9, 9, 9, 5, 9, 5, 9, 9, 5};
    for (int i = 0; i < laws.length; i++) {
      law(x, laws[i]);
      due(laws[i], x.wants(0, 0, false), due[i]);
    }
    law(x, "w[0-21475*99999-83647+99999/99999*21473]/[0-1](1=1)");
    due("a large division ends", x.wants(0, 0, false) >= 0, true);
  }

  private static void visits() {
    promise = 13;
    VanShelves x = small();
    int[][] bad = {{-1, 0, 2}, {3, 0, 2}, {0, -1, 2}, {0, 3, 2}, {0, 0, -1}, {0, 0, 200}};
    for (int[] b : bad) due("visits", x.visits(b[0], b[1], b[2]), -1);
    due("visits(0, 0, 2)", x.visits(0, 0, 2), 1);
    due("visits(0, 0, 3)", x.visits(0, 0, 3), 0);
    due("visits(1, 0, 2)", x.visits(1, 0, 2), 0);
    due("visits(0, 0, 198)", x.visits(0, 0, 198), 1);
    due("visits(1, 2, 199)", x.visits(1, 2, 199), 1);
    x.lostDay(0, 16, 1, 1);
    due("lost then", x.visits(0, 0, 16), 0);
    due("a fortnight later not", x.visits(0, 0, 30), 1);
  }

  private static void move() {
    promise = 14;
    VanShelves x = small();
    x.book(0, 9, 0, 0);
    x.book(0, 2, 0, 0);
    due("move(-1, 0)", x.move(-1, 0), false);
    due("move(2, 0)", x.move(2, 0), false);
    due("move(0, 3)", x.move(0, 3), false);
    due("move(0, -2)", x.move(0, -2), false);
    due("from store to store", x.move(0, -1), false);
    due("move(0, 0)", x.move(0, 0), true);
    due("there", x.move(0, 0), false);
    x.shelf(0, 10);
    due("the shelf", x.move(1, 0), false);
    due("another van", x.move(1, 1), true);
    due("from van to van", x.move(1, 2), true);
    due("bookIs(1, 0)", x.bookIs(1, 0), 3);
    x.shelf(0, 11);
    due("it just fits", x.move(1, 0), true);
    due("to the store", x.move(1, -1), true);
    x.now(2);
    x.lend(0, 0);
    due("out", x.move(0, -1), false);
    x.lost(0);
    due("lost", x.move(0, 1), false);
    due("refused ones are no acts", x.count(6), 7);
  }

  private static void lend() {
    promise = 15;
    VanShelves x = small();
    x.book(0, 1, 0, 0);
    x.book(1, 2, 0, 0);
    x.book(2, 2, 0, 0);
    x.book(2, 2, 0, 0);
    x.now(2);
    due("in the store", x.lend(0, 0), -1);
    x.move(0, 0);
    x.move(1, 1);
    x.move(2, 0);
    due("lend(-1, 0)", x.lend(-1, 0), -1);
    due("lend(4, 0)", x.lend(4, 0), -1);
    due("lend(0, -1)", x.lend(0, -1), -1);
    due("lend(0, 4)", x.lend(0, 4), -1);
    due("another van's stop", x.lend(0, 3), -1);
    due("another van", x.lend(1, 0), -1);
    x.now(15);
    due("no visit now", x.lend(0, 0), -1);
    x.now(16);
    due("14 days without a clause", x.lend(0, 0), 30);
    due("it is out", x.lend(0, 1), -1);
    due("bookIs(0, 0)", x.bookIs(0, 0), 10);
    law(x, "d99(k=2);w5(1=1)");
    x.ask(0, 2, 30);
    x.ask(1, 2, 30);
    due("60 at most", x.lend(2, 0), 76);
    due("asked no more by the reader", x.readerIs(0, 4), 0);
    due("still asked by another", x.readerIs(1, 4), 1);
    due("had", x.wants(0, 2, false), 0);
    law(x, "d[h*10+n]-99/[x+1](1=1)");
    x.move(3, 0);
    x.now(198);
    due("a day at least, h and n without it, up to 259", x.lend(3, 0), 199);
    law(x, "d7+h*10+n(1=1)");
    x.now(198);
    due("back", x.back(3, 0, 0), 0);
    due("h 2, n of kind 2: 2", x.lend(3, 0), 198 + 7 + 20 + 2);
  }

  private static void back() {
    promise = 16;
    VanShelves x = small();
    x.book(0, 5, 0, 100);
    x.book(0, 6, 0, 100);
    x.book(0, 6, 0, 100);
    law(x, "fx*5+1(1=1);d7(1=1)");
    x.move(0, 0);
    x.now(2);
    due("not out", x.back(0, 0, 0), -1);
    due("lend", x.lend(0, 0), 9);
    int[][] bad = {{-1, 0, 0}, {3, 0, 0}, {0, -1, 0}, {0, 3, 0}, {0, 0, -1}, {0, 0, 4}};
    for (int[] b : bad) due("back", x.back(b[0], b[1], b[2]), -1);
    due("that van is not there", x.back(0, 1, 0), -1);
    due("that stop has no visit", x.back(0, 0, 3), -1);
    x.now(10);
    due("no visit now", x.back(0, 0, 0), -1);
    x.now(17);
    x.move(1, 1);
    x.shelf(1, 10);
    due("the shelf", x.back(0, 1, 3), -1);
    x.shelf(1, 11);
    due("8 days late, at another stop, on another's ticket", x.back(0, 1, 3), 41);
    due("on van 1", x.bookIs(0, 0), 2);
    due("mixed", x.bookIs(0, 3), 1);
    due("mixed by the ticket's stop", x.counts(4, 2), 1);
    due("not by the other", x.counts(4, 0), 0);
    due("owed by who had it", x.readerIs(0, 2), 41);
    due("not by the ticket's", x.readerIs(3, 2), 0);
    due("due no more", x.bookIs(0, 1), -1);
    due("out no more", x.readerIs(0, 0), 0);
    due("lend", x.lend(0, 3), 24);
    due("at once", x.back(0, 1, 3), 1);
    due("not mixed", x.bookIs(0, 3), 1);
    due("lent to one who had it", x.lend(0, 3), 24);
    due("had by two", x.bookIs(0, 4), 2);
  }

  private static void fines() {
    promise = 16;
    VanShelves x = small();
    x.book(0, 5, 0, 100);
    x.book(0, 6, 0, 100);
    x.move(0, 0);
    x.move(1, 0);
    x.now(2);
    x.lend(0, 0);
    x.lend(1, 0);
    law(x, "fh*1000+n*100+s*10+x(1=1)");
    x.now(16);
    due("on the due day not late; letters of who has it, h with it", x.back(0, 0, 2), 2200);
    x.now(30);
    due("14 days late", x.back(1, 0, 0), 1214);
    x.lend(0, 2);
    law(x, "f99999(1=1)");
    due("10000 at most", x.back(0, 0, 2), 10000);
    x.lend(0, 2);
    law(x, "f0-5(1=1)");
    due("0 at least", x.back(0, 0, 2), 0);
    x.lend(0, 2);
    law(x, "f5/x(1=1)");
    due("refused: 0", x.back(0, 0, 2), 0);
    x.lend(0, 2);
    law(x, "f5(x>0)");
    due("none holds: 0", x.back(0, 0, 2), 0);
  }

  private static void lost() {
    promise = 17;
    VanShelves x = small();
    x.book(0, 5, 0, 123);
    due("lost(-1)", x.lost(-1), -1);
    due("lost(1)", x.lost(1), -1);
    due("in the store", x.lost(0), -1);
    x.move(0, 0);
    due("on a van", x.lost(0), -1);
    x.now(2);
    x.lend(0, 1);
    due("lost(0)", x.lost(0), 123);
    due("lost twice", x.lost(0), -1);
    due("owed", x.readerIs(1, 2), 123);
    due("where", x.bookIs(0, 0), 40);
    due("due", x.bookIs(0, 1), -1);
    due("out", x.readerIs(1, 0), 0);
    due("no way back", x.back(0, 0, 1), -1);
  }

  private static void bookIs() {
    promise = 18;
    VanShelves x = small();
    x.book(0, 5, 0, 123);
    x.move(0, 0);
    x.now(2);
    x.lend(0, 1);
    x.back(0, 0, 0);
    x.lend(0, 2);
    int[] due = {12, 16, 2, 1, 2};
    for (int what = 0; what < 5; what++) due("bookIs(0, " + what + ")", x.bookIs(0, what), due[what]);
    due("bookIs(0, 5)", x.bookIs(0, 5), -1);
    due("bookIs(0, -1)", x.bookIs(0, -1), -1);
    due("bookIs(1, 0)", x.bookIs(1, 0), -1);
    due("bookIs(-1, 0)", x.bookIs(-1, 0), -1);
  }

  private static void readerIs() {
    promise = 19;
    VanShelves x = small();
    for (int i = 0; i < 4; i++) {
      x.book(0, 5, 0, 100 + i);
      x.move(i, 0);
    }
    x.now(2);
    x.lend(0, 1);
    x.lend(1, 1);
    x.lend(2, 1);
    x.lost(2);
    x.back(0, 0, 1);
    x.lend(0, 1);
    x.had(1, 3);
    x.ask(1, 3, 2);
    x.ask(1, 2, 16);
    int[] due = {2, 4, 102, 4, 2};
    for (int what = 0; what < 5; what++) due("readerIs(1, " + what + ")", x.readerIs(1, what), due[what]);
    due("readerIs(1, 5)", x.readerIs(1, 5), -1);
    due("readerIs(1, -1)", x.readerIs(1, -1), -1);
    due("readerIs(4, 0)", x.readerIs(4, 0), -1);
    due("readerIs(-1, 0)", x.readerIs(-1, 0), -1);
    x.now(10);
    due("an ask of a past day stays", x.readerIs(1, 4), 2);
  }

  private static void pays() {
    promise = 20;
    VanShelves x = small();
    x.book(0, 5, 0, 123);
    x.move(0, 0);
    x.now(2);
    x.lend(0, 1);
    due("nothing owed", x.pays(1, 1), -1);
    x.lost(0);
    due("pays(1, 0)", x.pays(1, 0), -1);
    due("pays(1, -1)", x.pays(1, -1), -1);
    due("pays(1, 124)", x.pays(1, 124), -1);
    due("pays(4, 1)", x.pays(4, 1), -1);
    due("pays(-1, 1)", x.pays(-1, 1), -1);
    due("pays(1, 23)", x.pays(1, 23), 100);
    due("pays(1, 100)", x.pays(1, 100), 0);
    due("readerIs(1, 2)", x.readerIs(1, 2), 0);
  }

  private static void ask() {
    promise = 21;
    VanShelves x = small();
    x.book(0, 5, 0, 123);
    x.book(0, 5, 0, 123);
    x.now(2);
    x.move(0, 0);
    x.lend(0, 0);
    int[][] bad = {{-1, 1, 2}, {4, 1, 2}, {0, -1, 2}, {0, 2, 2}, {0, 1, -1}, {0, 1, 200}, {0, 1, 3}};
    for (int[] b : bad) due("ask", x.ask(b[0], b[1], b[2]), false);
    due("they have it out", x.ask(0, 0, 16), false);
    due("now", x.ask(0, 1, 2), true);
    due("asked", x.ask(0, 1, 16), false);
    due("out with another", x.ask(1, 0, 198), true);
    due("count(7)", x.count(7), 2);
    x.now(16);
    due("a day that is past", x.ask(2, 1, 2), false);
    due("asked, for a day that is past", x.ask(0, 1, 16), false);
    x.lost(0);
    due("a lost one can be asked for", x.ask(0, 0, 16), true);
    x.lostDay(0, 30, 1, 1);
    due("a lost day", x.ask(2, 1, 30), false);
  }

  private static void unask() {
    promise = 22;
    VanShelves x = small();
    x.book(0, 5, 0, 123);
    due("did not", x.unask(0, 0), false);
    x.ask(0, 0, 2);
    due("unask(1, 0)", x.unask(1, 0), false);
    due("unask(-1, 0)", x.unask(-1, 0), false);
    due("unask(4, 0)", x.unask(4, 0), false);
    due("unask(0, 1)", x.unask(0, 1), false);
    due("unask(0, -1)", x.unask(0, -1), false);
    due("unask(0, 0)", x.unask(0, 0), true);
    due("unask(0, 0)", x.unask(0, 0), false);
    due("count(7)", x.count(7), 0);
    due("ask anew", x.ask(0, 0, 16), true);
  }

  private static void aboard() {
    promise = 23;
    VanShelves x = small();
    for (int i = 0; i < 32; i++) x.book(0, 5, 0, 123);
    x.ask(0, 31, 2);
    x.ask(2, 31, 2);
    x.ask(2, 0, 2);
    x.ask(2, 1, 16);
    x.ask(3, 2, 3);
    due("aboard(2, 0)", x.aboard(2, 0), (1L << 31) + 1);
    due("aboard(16, 0)", x.aboard(16, 0), 2);
    due("aboard(3, 1)", x.aboard(3, 1), 4);
    due("aboard(2, 1)", x.aboard(2, 1), 0);
    due("aboard(-1, 0)", x.aboard(-1, 0), -1);
    due("aboard(200, 0)", x.aboard(200, 0), -1);
    due("aboard(2, 3)", x.aboard(2, 3), -1);
    due("aboard(2, -1)", x.aboard(2, -1), -1);
    x.visit(0, 2, 2);
    due("stop 0 by van 2 now", x.aboard(2, 2), 1L << 31);
    x.visit(1, -1, 2);
    due("no visit any more", x.aboard(2, 0), 0);
  }

  private static void promise() {
    promise = 24;
    VanShelves x = small();
    for (int i = 0; i < 5; i++) x.book(0, 2, 0, 50);
    x.stop(50, 50, 1);
    x.reader(3, 0);
    due("promise(-1, 0)", x.promise(-1, 0), -1);
    due("promise(5, 0)", x.promise(5, 0), -1);
    due("promise(0, -1)", x.promise(0, -1), -1);
    due("promise(0, 5)", x.promise(0, 5), -1);
    due("in the store", x.promise(0, 0), 2);
    due("no visits", x.promise(4, 0), -2);
    x.now(2);
    x.move(1, 0);
    x.move(2, 1);
    due("in the store, now", x.promise(0, 0), 2);
    due("on that van now", x.promise(0, 1), 2);
    due("on another van", x.promise(0, 2), 16);
    due("on another van, from the next day on", x.promise(3, 1), 3);
    x.lend(1, 0);
    due("due 16, same stop: on that day", x.promise(1, 1), 16);
    due("due 16, another stop: behind that day", x.promise(2, 1), 30);
    due("due 16, stop 2", x.promise(3, 1), 17);
    x.now(18);
    due("due is past: from now", x.promise(1, 1), 30);
    due("behind 30", x.promise(3, 1), 31);
    x.now(30);
    due("due is past, a visit now", x.promise(0, 1), 30);
    due("another stop", x.promise(2, 1), 44);
    x.lost(1);
    due("lost", x.promise(0, 1), -2);
    x.now(198);
    x.move(3, 0);
    x.lend(3, 2);
    due("it comes back too late", x.promise(0, 3), -2);
    due("the last day", x.promise(3, 0), 199);
    x.now(199);
    due("none up to 199", x.promise(0, 0), -2);
  }

  private static void whyNot() {
    promise = 25;
    VanShelves x = small();
    for (int i = 0; i < 8; i++) x.book(0, 9, 0, 50);
    x.now(2);
    due("did not ask", x.whyNot(0, 0), -1);
    due("whyNot(-1, 0)", x.whyNot(-1, 0), -1);
    due("whyNot(4, 0)", x.whyNot(4, 0), -1);
    due("whyNot(0, -1)", x.whyNot(0, -1), -1);
    due("whyNot(0, 8)", x.whyNot(0, 8), -1);
    x.ask(2, 0, 16);
    due("it could be on board", x.whyNot(2, 0), 0);
    x.ask(1, 0, 16);
    due("a lower reader for that day", x.whyNot(2, 0), 5);
    due("the lower one", x.whyNot(1, 0), 0);
    x.ask(3, 0, 3);
    due("ahead of that day", x.whyNot(1, 0), 5);
    due("the first", x.whyNot(3, 0), 0);
    x.now(4);
    due("the day is past", x.whyNot(3, 0), -1);
    due("an ask for a past day is not ahead", x.whyNot(1, 0), 0);
    x.ask(0, 1, 16);
    x.ask(0, 2, 16);
    x.ask(0, 3, 16);
    due("lengths 36 above the shelf 30", x.whyNot(1, 0), 6);
    x.shelf(0, 36);
    due("they fit", x.whyNot(1, 0), 0);
    x.now(16);
    x.move(0, 1);
    due("now, and on a van that is not there", x.whyNot(1, 0), 4);
    x.move(0, 0);
    due("now, and on that van", x.whyNot(1, 0), 0);
    x.lend(0, 0);
    x.ask(3, 1, 17);
    due("it is out, and the promise is later", x.whyNot(1, 0), 3);
    x.ask(3, 0, 31);
    due("whyNot(3, 0): still for day 3", x.whyNot(3, 0), -1);
    x.unask(3, 0);
    x.ask(3, 0, 31);
    due("out, and the promise is 31", x.whyNot(3, 0), 5);
    x.unask(1, 0);
    x.unask(2, 0);
    due("out, and the promise is that day", x.whyNot(3, 0), 0);
    x.visit(2, -1, 0);
    due("no visit any more", x.whyNot(3, 0), 2);
    x.lost(0);
    due("lost before all", x.whyNot(3, 0), 1);
  }

  private static void ring() {
    promise = 26;
    VanShelves x = new VanShelves();
    x.stop(1, 1, 1);
    x.visit(0, 0, 0);
    for (int i = 0; i < 16; i++) {
      x.reader(0, 0);
      x.book(0, 1, 0, 0);
      x.move(i, 0);
      x.lend(i, i);
    }
    due("none", x.ring(-1), 0);
    due("no place", x.ring(0), -1);
    for (int i = 15; i >= 0; i--) x.ask(i, (i + 3) % 16, 14);
    due("all 16", x.ring(-1), 16);
    for (int i = 0; i < 16; i++) due("place " + i, x.ring(i), i * 3 % 16);
    due("ring(16)", x.ring(16), -1);
    due("ring(-2)", x.ring(-2), -1);
    x.ask(12, 6, 14);
    due("6 9 12", x.ring(-1), 3);
    due("from the lowest on", x.ring(0), 6);
    due("the next", x.ring(1), 9);
    due("the last", x.ring(2), 12);
    due("ring(3)", x.ring(3), -1);
    x.ask(15, 5, 14);
    x.ask(5, 15, 14);
    x.ask(14, 5, 14);
    x.ask(5, 14, 14);
    due("fewest", x.ring(-1), 2);
    due("of like ones the least row", x.ring(1), 14);
    x.ask(6, 7, 14);
    x.ask(7, 6, 14);
    due("of like ones the least start", x.ring(0), 5);
    x.back(4, 0, 0);
    x.lend(4, 14);
    x.ask(5, 4, 14);
    x.unask(6, 7);
    x.unask(1, 4);
    due("two books of one reader", x.ring(0) * 100 + x.ring(1), 514);
    x.unask(5, 4);
    x.back(4, 0, 14);
    x.lend(4, 4);
    x.back(5, 0, 5);
    due("what is not out makes no ring", x.ring(-1), 3);
    x.unask(12, 6);
    due("none again", x.ring(-1), 0);
    due("no place", x.ring(0), -1);
  }

  private static void load() {
    promise = 27;
    VanShelves x = small();
    law(x, "wt*10(1=1)");
    for (int r = 0; r < 4; r++) x.taste(r, r, 5);
    x.book(0, 3, 0, 0);
    x.book(1, 4, 0, 0);
    x.book(2, 5, 0, 0);
    x.book(3, 1, 0, 0);
    x.book(0, 2, 0, 0);
    due("no readers today", x.load(0, 1, 255, 0), 0);
    due("serves none", x.load(0, 1, 255, 1), 0);
    due("length 0", x.load(0, 1, 255, 2), 0);
    x.now(2);
    int[][] bad = {{-1, 1, 0, 0}, {3, 1, 0, 0}, {0, 0, 0, 0}, {0, 1001, 0, 0}, {0, 1, -1, 0}, {0, 1, 256, 0}, {0, 1, 0, 3}, {0, 1, 0, -1}};
    for (int[] b : bad) due("load", x.load(b[0], b[1], b[2], b[3]), -1);
    due("of like ones the shorter", x.load(0, 50, 0, 0), 2 + 4 + 16);
    due("serves", x.load(0, 50, 0, 1), 3);
    due("length", x.load(0, 50, 0, 2), 11);
    x.shelf(0, 11);
    due("the shelf is just full", x.load(0, 50, 0, 1), 3);
    x.ask(1, 0, 2);
    x.shelf(0, 30);
    due("two of a kind that must be there", x.load(0, 50, 1, 0), 1 + 2 + 4);
    x.ask(1, 4, 2);
    due("two of a kind on board", x.load(0, 50, 1, 0), 1 + 2 + 4 + 16);
    x.unask(1, 0);
    x.unask(1, 4);
    due("wants by more: nobody", x.load(0, 51, 0, 0), 0);
    x.shelf(0, 10);
    due("the shelf", x.load(0, 50, 0, 0), 2 + 16);
    due("of two: 6", x.load(0, 50, 0, 2), 6);
    due("kind 2 must be there", x.load(0, 50, 4, 0), 4 + 16);
    due("kind 3 is of none of them", x.load(0, 50, 8, 0), 2 + 16);
    x.ask(1, 0, 2);
    due("on board", x.load(0, 50, 0, 0), 1 + 2);
    x.ask(1, 3, 2);
    due("on board, wanted by nobody today", x.load(0, 50, 0, 0), 1 + 2 + 8);
    x.shelf(0, 3);
    due("none fits", x.load(0, 50, 0, 0), -2);
    due("none fits", x.load(0, 50, 0, 1), -2);
    x.shelf(0, 30);
    x.move(4, 0);
    x.move(2, 1);
    x.unask(1, 0);
    x.unask(1, 3);
    due("on the van or in the store alone", x.load(0, 50, 0, 0), 2 + 16);
    x.shelf(0, 5);
    due("kinds that do not fit together", x.load(0, 50, 3, 0), -2);
  }

  private static void loadEdges() {
    promise = 27;
    VanShelves x = new VanShelves();
    x.stop(1, 1, 1);
    x.visit(0, 2, 0);
    law(x, "w1(b>0)");
    x.reader(0, 0);
    for (int i = 0; i < 20; i++) x.book(0, i == 19 ? 1 : i < 3 ? 3 : 2, 0, 0);
    due("the first 12: 1 to 12; the least set", x.load(2, 1, 0, 0), 8);
    x.ask(0, 0, 0);
    due("on board: 0 is of the 12; it serves nobody", x.load(2, 1, 0, 0), 1 + 8);
    x.ask(0, 19, 0);
    due("on board, but not of the 12", x.load(2, 1, 0, 0), 1 + 8);
    for (int i = 1; i < 16; i++) x.reader(0, 0);
    x.shelf(2, 99);
    due("each book one reader", x.load(2, 1, 0, 1), 11);
    due("all of them", x.load(2, 1, 0, 0), 4095);
    due("length", x.load(2, 1, 0, 2), 9 + 18);
    x.had(5, 5);
    due("had by one, wanted by others", x.load(2, 1, 0, 1), 11);
  }

  private static void served() {
    promise = 28;
    VanShelves x = small();
    law(x, "w10*[t/[b+1]](1=1)");
    for (int b = 0; b < 32; b++) x.book(b % 8, 1, 0, 0);
    due("no readers today", x.served(0, 1, 1), 0);
    x.now(2);
    x.taste(0, 0, 9);
    x.taste(1, 0, 9);
    x.taste(1, 1, 9);
    x.taste(2, 1, 9);
    x.taste(2, 2, 9);
    due("served(-1, 1, 1)", x.served(-1, 1, 1), -1);
    due("served(3, 1, 1)", x.served(3, 1, 1), -1);
    due("served(0, 1, 0)", x.served(0, 1, 0), -1);
    due("served(0, 1, 1001)", x.served(0, 1, 1001), -1);
    due("bit 32", x.served(0, 1L << 32, 1), -1);
    due("negative", x.served(0, -1, 1), -1);
    due("none", x.served(0, 0, 1), 0);
    due("all", x.served(0, (1L << 32) - 1, 1), 3);
    due("book 0", x.served(0, 1, 1), 1);
    due("0 and 1", x.served(0, 3, 1), 2);
    due("0, 1 and 2", x.served(0, 7, 1), 3);
    due("by 40", x.served(0, 7, 40), 2);
    due("by 41", x.served(0, 7, 41), 1);
    due("van 1 has no stop now", x.served(1, 7, 1), 0);
    x.had(0, 0);
    x.had(1, 0);
    due("had", x.served(0, 7, 1), 2);
    VanShelves y = small();
    y.book(0, 1, 0, 0);
    due("a book that is not there", y.served(0, 2, 1), -1);
  }

  private static void least() {
    promise = 29;
    VanShelves x = small();
    due("no visits so far", x.least(0), -1);
    x.now(3);
    due("the lowest of like ones", x.least(0), 0);
    due("least(3)", x.least(3), -1);
    due("least(-1)", x.least(-1), -1);
    for (int i = 0; i < 4; i++) {
      x.book(0, 1, 0, 0);
      x.move(i, i == 3 ? 1 : 0);
    }
    x.now(16);
    for (int i = 0; i < 3; i++) x.lend(i, i);
    due("3 of stop 2 has none", x.least(0), 3);
    due("loans", x.least(1), 0);
    due("visits up to now: 3", x.least(2), 1);
    x.now(17);
    x.lend(3, 3);
    due("all 1 of 2", x.least(0), 0);
    due("loans", x.least(1), 1);
    due("visits", x.least(2), 2);
    x.now(31);
    due("1 of 3 all", x.least(2), 3);
    x.visit(0, 0, 4);
    x.visit(2, 1, 2);
    x.now(32);
    due("1 of 3: 0, 1, 2 of stops 0 and 1, 3 visits each", x.least(0), 0);
    x.now(44);
    due("stops 1 and 2 have four by now", x.least(0), 2);
    due("visits", x.least(2), 4);
  }

  private static void dull() {
    promise = 30;
    VanShelves x = small();
    law(x, "wt*10(1=1)");
    for (int b = 0; b < 32; b++) x.book(b == 31 ? 7 : b % 4, 1, 0, 0);
    x.taste(0, 0, 3);
    x.taste(3, 1, 5);
    x.move(31, 0);
    x.move(0, 0);
    x.move(1, 0);
    x.move(5, 1);
    due("dull(-1, 1)", x.dull(-1, 1), -1);
    due("dull(3, 1)", x.dull(3, 1), -1);
    due("dull(0, 0)", x.dull(0, 0), -1);
    due("dull(0, 1001)", x.dull(0, 1001), -1);
    due("dull(0, 30)", x.dull(0, 30), (1L << 31) + 2);
    due("dull(0, 31)", x.dull(0, 31), (1L << 31) + 3);
    due("dull(1, 50)", x.dull(1, 50), 0);
    due("dull(1, 51)", x.dull(1, 51), 32);
    due("dull(2, 1)", x.dull(2, 1), 0);
    x.visit(2, 0, 9);
    due("stop 2 by van 0", x.dull(0, 1), 1L << 31);
    due("van 1 has no stop", x.dull(1, 1), 32);
    x.lostDay(0, 9, 1, 1000);
    due("lost days and put ones do not matter", x.dull(0, 1), 1L << 31);
  }

  private static void onward() {
    promise = 31;
    VanShelves x = small();
    law(x, "wt*10(1=1)");
    x.book(0, 1, 0, 0);
    due("nobody", x.onward(0, 1), -2);
    due("onward(-1, 1)", x.onward(-1, 1), -1);
    due("onward(1, 1)", x.onward(1, 1), -1);
    due("onward(0, 0)", x.onward(0, 0), -1);
    due("onward(0, 1001)", x.onward(0, 1001), -1);
    x.taste(3, 0, 5);
    due("van 1", x.onward(0, 50), 1);
    due("not so much", x.onward(0, 51), -2);
    x.taste(0, 0, 4);
    due("of like ones the lowest", x.onward(0, 40), 0);
    due("by 41", x.onward(0, 41), 1);
    x.reader(2, 0);
    x.taste(4, 0, 9);
    due("most", x.onward(0, 1), 1);
    x.had(4, 0);
    due("had", x.onward(0, 1), 0);
    x.visit(0, -1, 0);
    due("no visit told", x.onward(0, 1), 1);
  }

  private static void different() {
    promise = 32;
    VanShelves x = small();
    for (int b = 0; b < 5; b++) x.book(0, 1, 0, 0);
    x.stop(5, 5, 5);
    x.move(0, 0);
    x.move(1, 0);
    x.move(2, 1);
    due("different(-1, 0)", x.different(-1, 0), -1);
    due("different(4, 0)", x.different(4, 0), -1);
    due("different(0, -1)", x.different(0, -1), -1);
    due("different(0, 200)", x.different(0, 200), -1);
    due("no visit", x.different(3, 0), -1);
    due("different(0, 0)", x.different(0, 0), 2);
    due("different(2, 0)", x.different(2, 0), 1);
    x.had(1, 0);
    due("one of the stop had it", x.different(0, 0), 1);
    due("another stop", x.different(1, 0), 2);
    due("the last fortnight", x.different(0, 198), 1);
    due("up to 199", x.different(0, 199), -1);
    x.lostDay(0, 16, 14, 1000);
    due("put to van 1 on day 17: two vans in the fortnight", x.put(0, 1), 1);
    due("put day", x.put(0, 0), 17);
    due("14 days: 16 to 29, van 1 alone", x.different(0, 16), 1);
    due("17 to 30, both", x.different(0, 17), 2);
    x.visit(0, 0, 9);
    x.lostDay(0, 9, 1, 1000);
    due("van 0 on days 10 and 23, van 1 on day 17", x.put(0, 0) * 10 + x.put(0, 1), 100);
    due("a van that comes twice", x.different(0, 10), 2);
  }

  private static void pace() {
    promise = 33;
    VanShelves x = small();
    due("pace(0)", x.pace(0), false);
    due("pace(10)", x.pace(10), false);
    due("2 at first", x.round(0, 2, 8), 40 * 2 + 50);
    due("pace(9)", x.pace(9), true);
    due("minutes", x.round(0, 2, 8), 40 * 9 + 50);
    due("pace(1)", x.pace(1), true);
    due("minutes", x.round(0, 2, 8), 40 + 50);
  }

  private static void round() {
    promise = 34;
    VanShelves x = small();
    int[][] bad = {{-1, 2, -1}, {3, 2, -1}, {0, -1, -1}, {0, 200, -1}, {0, 2, -2}, {0, 2, 9}};
    for (int[] b : bad) due("round", x.round(b[0], b[1], b[2]), -1);
    due("no stops", x.round(0, 0, -1), 0);
    due("no stops", x.round(0, 0, 8), 0);
    due("no stops", x.round(0, 0, 0), -1);
    x.visit(2, 0, 2);
    due("miles", x.round(0, 16, -1), 40);
    due("of like ones the least row", x.round(0, 16, 0), 0);
    due("then", x.round(0, 16, 1), 2);
    due("last", x.round(0, 16, 2), 1);
    due("no such place", x.round(0, 16, 3), -1);
    VanShelves y = new VanShelves();
    int[] xs = {90, 10, 80, 20, 70, 30, 60, 40, 50, 0};
    for (int i = 0; i < 10; i++) y.stop(xs[i], i % 2, 10);
    for (int i = 0; i < 8; i++) y.visit(i, 1, 5);
    due("eight stops there and back", y.round(1, 5, -1), 182);
    due("minutes", y.round(1, 5, 8), 182 * 2 + 80);
    due("ends", y.round(1, 5, 7) >= 0, true);
    y.visit(8, 1, 5);
    for (int what = -1; what <= 8; what++) due("nine: none is told", y.round(1, 5, what), -2);
    due("no such place all the same", y.round(1, 5, 9), -1);
  }

  private static void went() {
    promise = 35;
    VanShelves x = small();
    due("went(-1, 0)", x.went(-1, 0), -1);
    due("went(3, 0)", x.went(3, 0), -1);
    due("went(0, 3)", x.went(0, 3), -1);
    due("went(0, -1)", x.went(0, -1), -1);
    due("miles saved", x.went(0, 0), 20);
    due("miles saved", x.went(2, 0), 40);
    due("readers", x.went(0, 1), 2);
    due("readers", x.went(2, 1), 1);
    x.visit(2, 0, 2);
    due("on the way: 40 less 40", x.went(0, 0), 0);
    due("40 less 40", x.went(2, 0), 0);
    x.lostDay(0, 2, 14, 1000);
    due("by visits as told alone", x.went(0, 0), 0);
    x.book(0, 1, 0, 0);
    x.move(0, 0);
    x.now(16);
    x.lend(0, 1);
    x.back(0, 0, 1);
    x.lend(0, 0);
    due("loans", x.went(0, 2), 2);
    due("loans", x.went(1, 2), 0);
    x.visit(0, -1, 0);
    due("without a visit", x.went(0, 0), 0);
    VanShelves y = new VanShelves();
    for (int i = 0; i < 10; i++) y.stop(i, 0, 10);
    for (int i = 0; i < 9; i++) y.visit(i, 1, 5);
    due("a round is not told", y.went(0, 0), -2);
    due("readers are", y.went(0, 1), 0);
    due("stop 9 has no visit", y.went(9, 0), 0);
    y.visit(0, 1, 6);
    due("eight", y.went(8, 0), 2);
  }

  private static void lostDay() {
    promise = 36;
    VanShelves x = small();
    x.now(1);
    int[][] bad = {{-1, 2, 1, 1}, {3, 2, 1, 1}, {0, 0, 1, 1}, {0, 200, 1, 1}, {0, 2, 0, 1}, {0, 2, 29, 1}, {0, 2, 1, 0}, {0, 2, 1, 1001}};
    for (int[] b : bad) due("lostDay", x.lostDay(b[0], b[1], b[2], b[3]), -1);
    due("count(8)", x.count(8), 0);
    due("to van 1 on day 3: no mile more", x.lostDay(0, 2, 28, 1000), 2);
    due("count(8)", x.count(8), 1);
    due("it is lost", x.lostDay(0, 2, 28, 1000), -1);
    due("put", x.put(0, 0) * 10 + x.put(0, 1), 31);
    due("put", x.put(1, 0) * 10 + x.put(1, 1), 31);
    due("a visit, too", x.visits(1, 0, 3), 1);
    due("not on day 17", x.visits(1, 0, 17), 0);
    due("minutes", x.round(1, 3, 8), 40 * 2 + 90);
    due("those put there, too", x.lostDay(1, 3, 1, 1000), 3);
    due("put to day 4", x.put(0, 0) * 10 + x.put(0, 1), 40);
    due("visited no more", x.visits(1, 0, 3), 0);
    VanShelves y = small();
    due("the bound: 0 alone 20 and 40, 1 alone 30 and 40", y.lostDay(0, 2, 13, 60), 1);
    due("put first day, lowest van", y.put(0, 0) * 10 + y.put(0, 1), 30);
    due("1 is not put", y.put(1, 0), -1);
    due("1 is not visited", y.visits(0, 1, 3), 0);
    VanShelves z = small();
    due("a fortnight on it is visited anyway, whatever the bound", z.lostDay(0, 2, 14, 1), 2);
    due("put", z.put(0, 0) * 10 + z.put(0, 1), 160);
    z.visit(0, -1, 0);
    due("what was put stays", z.visits(0, 0, 16), 1);
    z.visit(0, 0, 3);
    due("put there once more", z.lostDay(0, 3, 13, 1), 1);
    due("put", z.put(0, 0) * 10 + z.put(0, 1), 160);
    due("it is visited still", z.visits(0, 0, 16), 1);
    VanShelves w = small();
    due("behind the last day", w.lostDay(0, 198, 28, 1000), 2);
    due("day 199", w.put(0, 0), 199);
    due("no day behind it", w.lostDay(1, 199, 28, 1000), 0);
    due("none", w.put(0, 0), -1);
    due("a day without stops", w.lostDay(2, 5, 1, 1), 0);
    due("count(8)", w.count(8), 3);
  }

  private static void crowdedDays() {
    promise = 36;
    VanShelves x = new VanShelves();
    for (int i = 0; i < 10; i++) x.stop(i + 1, 0, 1);
    for (int i = 0; i < 8; i++) x.visit(i, 0, 5);
    x.visit(8, 1, 4);
    due("van 0 has eight on day 5: stop 8 goes to van 1", x.lostDay(1, 4, 3, 1000), 1);
    due("put", x.put(8, 0) * 10 + x.put(8, 1), 51);
    due("to where eight are, if it is one of them", x.lostDay(0, 5, 14, 1), 8);
    due("put", x.put(7, 0) * 10 + x.put(7, 1), 190);
    VanShelves y = new VanShelves();
    for (int i = 0; i < 10; i++) y.stop(i + 1, 0, 1);
    for (int i = 0; i < 9; i++) y.visit(i, 0, 5);
    due("all nine go to the day behind, but none to where nine are", y.lostDay(0, 5, 14, 1000), 9);
    due("put", y.put(0, 0) * 10 + y.put(0, 1), 60);
    due("the ninth", y.put(8, 0) * 10 + y.put(8, 1), 61);
    due("eight are there", y.round(0, 6, -1), 16);
  }

  private static void put() {
    promise = 37;
    VanShelves x = small();
    due("put(-1, 0)", x.put(-1, 0), -1);
    due("put(3, 0)", x.put(3, 0), -1);
    due("put(0, 2)", x.put(0, 2), -1);
    due("put(0, -1)", x.put(0, -1), -1);
    due("had none", x.put(0, 0), -1);
    due("had none", x.put(0, 1), -1);
    x.lostDay(0, 16, 14, 1000);
    due("put", x.put(0, 0) * 10 + x.put(0, 1), 171);
    x.lostDay(0, 2, 1, 1);
    due("it was not", x.put(0, 0), -1);
    due("it was not", x.put(0, 1), -1);
    due("the visit put before stays", x.visits(1, 0, 17), 1);
    due("stop 2 had none", x.put(2, 0), -1);
  }

  private static void knownIn() {
    promise = 38;
    VanShelves x = new VanShelves();
    x.book(0, 1, 0, 0);
    due("knownIn(-1)", x.knownIn(-1), false);
    due("knownIn(21)", x.knownIn(21), false);
    due("knownIn(20)", x.knownIn(20), true);
    x.move(0, 1);
    due("not yet", x.where(0, 0, 19), 0);
    due("now", x.where(0, 0, 20), 2);
    due("knownIn(0)", x.knownIn(0), true);
    due("acts before keep theirs", x.where(0, 0, 19), 0);
  }

  private static void where() {
    promise = 39;
    VanShelves x = small();
    x.book(0, 1, 0, 0);
    x.book(0, 1, 0, 0);
    due("no acts", x.where(0, 0, 199), 0);
    x.knownIn(5);
    x.move(0, 0);
    x.now(2);
    x.knownIn(1);
    x.lend(0, 1);
    x.now(16);
    x.knownIn(0);
    x.back(0, 0, 1);
    x.now(17);
    due("where(-1)", x.where(-1, 0, 0), -1);
    due("where(2)", x.where(2, 0, 0), -1);
    due("behind now", x.where(0, 18, 18), -1);
    due("day -1", x.where(0, -1, 5), -1);
    due("known before", x.where(0, 5, 4), -1);
    due("known 200", x.where(0, 5, 200), -1);
    due("day 0 by 4", x.where(0, 0, 4), 0);
    due("day 0 by 5", x.where(0, 0, 5), 1);
    due("day 2 by 2: nothing is known", x.where(0, 2, 2), 0);
    due("day 2 by 3: lent", x.where(0, 2, 3), 11);
    due("day 2 by 199: the latest, though the first came later", x.where(0, 2, 199), 11);
    due("day 15 by 199", x.where(0, 15, 199), 11);
    due("day 16 by 16", x.where(0, 16, 16), 1);
    due("another book", x.where(1, 16, 16), 0);
    x.now(30);
    x.lend(0, 0);
    x.lost(0);
    due("the latest of a day", x.where(0, 30, 30), 40);
  }

  private static void counts() {
    promise = 40;
    VanShelves x = small();
    for (int i = 0; i < 4; i++) x.book(i == 3 ? 7 : 0, 1, 0, 0);
    x.move(0, 0);
    x.move(1, 0);
    x.move(3, 1);
    x.now(2);
    x.lend(0, 0);
    x.lend(1, 0);
    x.back(1, 0, 2);
    x.lend(1, 2);
    x.now(3);
    x.lend(3, 3);
    int[][] due = {
      {0, 0, 2}, {0, 1, 1}, {0, 2, 1}, {0, 3, -1}, {0, -1, -1}, {1, 0, 3}, {1, 7, 1}, {1, 1, 0}, {1, 8, -1}, {1, -1, -1}, {2, 0, 3},
      {2, 1, 1}, {2, 2, 0}, {2, 3, -1}, {2, -1, -1}, {3, 0, 1}, {3, 1, 1}, {3, 2, 1}, {3, 3, -1}, {4, 0, 0}, {4, 1, 1}, {4, 2, 0},
      {4, 3, -1}, {5, 0, 4}, {5, 1, -1}, {5, -1, -1}, {6, 0, -1}, {-1, 0, -1},
    };
    for (int[] d : due) due("counts(" + d[0] + ", " + d[1] + ")", x.counts(d[0], d[1]), d[2]);
  }

  private static void council() {
    promise = 41;
    VanShelves x = small();
    due("council(-1, 1)", x.council(-1, 1), -1);
    due("council(3, 1)", x.council(3, 1), -1);
    due("council(0, 0)", x.council(0, 0), -1);
    due("council(0, 17)", x.council(0, 17), -1);
    due("council(0, 1)", x.council(0, 1), 2);
    due("council(0, 2)", x.council(0, 2), 2);
    due("council(0, 3)", x.council(0, 3), 0);
    due("council(0, 16)", x.council(0, 16), 0);
  }

  private static void check() {
    promise = 42;
    VanShelves x = small();
    due("no books", x.check(0), -1);
    due("it has not so many", x.check(1), -2);
    due("check(-1)", x.check(-1), -2);
    due("check(min)", x.check(Integer.MIN_VALUE), -2);
    due("check(max)", x.check(Integer.MAX_VALUE), -2);
    due("more than there are", x.feed(0, 0, -1, 0, 0), 20);
    due("more than there are", x.check(1), 0);
    x.book(0, 1, 0, 0);
    x.book(0, 1, 0, 0);
    x.move(1, 2);
    due("right", check(x, 2, 0, 0, -1, 1, 3, -1), -1);
    due("empty then", x.count(5), 0);
    due("the book", check(x, 2, 1, 0, -1, 1, 3, -1), 0);
    due("where", check(x, 2, 0, 1, -1, 1, 3, -1), 1);
    due("due", check(x, 2, 0, 0, 0, 1, 3, -1), 2);
    due("the second's book", check(x, 2, 0, 0, -1, 2, 3, -1), 3);
    due("the second's place", check(x, 2, 0, 0, -1, 1, 2, -1), 4);
    due("the second's due", check(x, 2, 0, 0, -1, 1, 3, 255), 5);
    due("some are lacking", check(x, 1, 0, 0, -1, 1, 3, -1), 3);
    due("all are lacking", check(x, 0, 0, 0, -1), 0);
    due("one too many", check(x, 3, 0, 0, -1, 1, 3, -1, 2, 0, -1), 6);
    x.feed(0, 0, -1, 1, 3);
    due("24 bytes are not there", x.check(2), -2);
    due("the tape stays", x.count(5), 20);
    due("the first n numbers alone", x.check(1), 3);
    x.now(2);
    x.move(0, 0);
    x.lend(0, 1);
    due("out", check(x, 2, 0, 11, 16, 1, 3, -1), -1);
    x.lost(0);
    due("lost", check(x, 2, 0, 40, -1, 1, 3, -1), -1);
  }

  private static int check(VanShelves x, int n, int... numbers) {
    int[] v = new int[(numbers.length + 4) / 5 * 5];
    System.arraycopy(numbers, 0, v, 0, numbers.length);
    for (int i = 0; i < v.length; i += 5) x.feed(v[i], v[i + 1], v[i + 2], v[i + 3], v[i + 4]);
    return x.check(n);
  }

  private static void count() {
    promise = 43;
    VanShelves x = small();
    law(x, "w1(1=1);w1(1=1)");
    x.book(0, 4, 0, 0);
    x.book(0, 5, 0, 0);
    x.book(0, 6, 0, 0);
    x.move(0, 0);
    x.move(1, 0);
    x.move(2, 2);
    x.feed(0, 0, 0, 0, 0);
    x.now(2);
    x.ask(0, 0, 2);
    x.lostDay(2, 7, 1, 1);
    int[] due = {2, 3, 3, 4, 2, 20, 3, 1, 1, -1, 9, 0, 6, -1};
    for (int what = 0; what < due.length; what++) due("count(" + what + ")", x.count(what), due[what]);
    due("count(-1)", x.count(-1), -1);
    due("count(19)", x.count(19), -1);
    due("count(20)", x.count(20), 2);
    due("count(21)", x.count(21), 1);
    due("count(22)", x.count(22), 1);
    due("count(23): no such stop", x.count(23), -1);
    due("count(max)", x.count(Integer.MAX_VALUE), -1);
  }

  /** No act is told beyond 200. */
  private static void acts() {
    promise = 14;
    VanShelves x = small();
    x.book(0, 1, 0, 7);
    x.book(0, 1, 0, 7);
    x.book(0, 1, 0, 7);
    x.now(2);
    x.move(1, 0);
    x.move(2, 0);
    x.lend(1, 0);
    for (int i = 3; i < 200; i++) due("move", x.move(0, i % 2), true);
    due("count(6)", x.count(6), 200);
    due("move", x.move(0, 0), false);
    promise = 15;
    due("lend", x.lend(2, 0), -1);
    promise = 16;
    due("back", x.back(1, 0, 0), -1);
    promise = 17;
    due("lost", x.lost(1), -1);
    due("nothing changed", x.readerIs(0, 0) + x.readerIs(0, 1) + x.readerIs(0, 2), 2);
  }
}
