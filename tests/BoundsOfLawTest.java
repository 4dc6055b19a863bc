/** The bounds that the document names for THE LAW (Terms, promise 11): one script a sentence. */
public final class BoundsOfLawTest {
  /** Stop 0 by van 0 each 14 days from 0 on, readers 0 and 1 there, books 0 to 3 of kind 0 (price 10) on van 0. */
  private static final String SMALL = """
      stop(1, 1, 1)
      visit(0, 0, 0)
      2 times reader(0, 0)
      4 times book(0, 2, 0, 10)
      4 times move(%, 0)
      """;

  private static final String EIGHT = "w1(1=1);";

  public static void main(String[] args) {
    textBounds();
    clauseBounds();
    signs();
    ends();
    digits();
    open();
    choice();
    worthBounds();
    letters();
    arithmetic();
    tests();
    refused();
    Script.end("bounds of the law");
  }

  private static void law(String sentence, String text, int due) {
    Script.holds(sentence, "law " + text + " = " + due, "count(5) = 0", "count(4) = " + Math.max(0, due));
  }

  /** The text is right, and reader 0 wants book 0 by so much. */
  private static void worth(String sentence, String text, int due) {
    Script.holds(sentence, SMALL, "law " + text, "wants(0, 0, true) = " + due);
  }

  private static void textBounds() {
    String almost = "w1" + "+1".repeat(96);
    Script.holds("11: by the first n bytes of the tape (1 to 200): too few", """
        feed(1999972401, 1026631936, 0, 0, 0) = 20
        law(0) = NONE
        law(-1) = NONE
        law(min) = NONE
        count(5) = 20
        law(1) = -1001
        count(5) = 0
        """);
    Script.holds("a TEXT of at most 200 bytes: 199", SMALL, "law " + almost + "(1=1) = 1", "wants(0, 0, false) = 97");
    Script.holds("a TEXT of at most 200 bytes: 200", SMALL, "law " + almost + "(2>01) = 1", "wants(0, 0, false) = 97");
    Script.holds("a TEXT of at most 200 bytes: 201", SMALL, "law " + almost + "(22>01) = NONE", "count(4) = 0", "count(5) = 220",
        "wants(0, 0, false) = 0", "law(200) = -1200", "count(5) = 0");
    Script.holds("11: (1 to 200): 201", "11 times feed(0, 0, 0, 0, 0)", "law(201) = NONE", "law(max) = NONE", "count(5) = 220",
        "law(200) = -1000", "count(5) = 0");
    Script.holds("11: NONE: it has not so many (the tape stays)", """
        law(1) = NONE
        feed(1999972401, 1026631936, 0, 0, 0) = 20
        law(21) = NONE
        law(200) = NONE
        count(5) = 20
        law(7) = 1
        law(1) = NONE
        """);
    Script.holds("11: by the first n bytes alone; empty then", """
        feed(1999972401, 1026631936, 0, 0, 0) = 20
        feed(0, 0, 0, 0, 0) = 40
        law(7) = 1
        count(5) = 0
        feed(1999972401, 1026631936, 0, 0, 0) = 20
        law(8) = -1007
        count(5) = 0
        """);
    Script.holds("11: in place of the one before", SMALL, """
        law w5(1=1);d9(1=1) = 2
        count(4) = 2
        lend(0, 0) = 9
        law w6(1=1) = 1
        count(4) = 1
        wants(0, 1, false) = 6
        lend(1, 0) = 14
        """);
    Script.holds("11: in place of the one before: nothing of it stays", SMALL, """
        law w5(1=2);w6(1=1) = 2
        law w7(1=2) = 1
        law w8(1=2) = 1
        wants(0, 0, false) = 0
        law w9(1=2) = 1
        wants(0, 0, false) = 0
        """);
    Script.holds("11: in place of the one before: of 200 bytes, again and again", SMALL,
        ("law " + almost + "(2>01) = 1\nwants(0, 0, false) = 97\nlaw " + almost + "(2>1); = -1200\n").repeat(6));
    Script.holds("11: a FAULT (the TEXT before stays)", SMALL, """
        law w5(1=1);d9(1=1) = 2
        law w6(1=1);d8(1=1);f7(1=1 = -1022
        count(4) = 2
        wants(0, 0, false) = 5
        lend(0, 0) = 9
        law w = -1001
        law x = -1000
        wants(0, 1, false) = 5
        count(4) = 2
        """);
    Script.holds("(none at first)", SMALL, """
        count(4) = 0
        law w5(1=1 = -1006
        count(4) = 0
        wants(0, 0, false) = 0
        lend(0, 0) = 14
        back(0, 0, 0) = 0
        """);
  }

  private static void clauseBounds() {
    law("CLAUSES (14 at most): one", "w1(1=1)", 1);
    law("CLAUSES (14 at most): 13", EIGHT.repeat(12) + "d1(1=1)", 13);
    law("CLAUSES (14 at most): 14", EIGHT.repeat(13) + "f1(1=1)", 14);
    law("4 a 15th CLAUSE, at its letter", EIGHT.repeat(14) + "w1(1=1)", -4112);
    law("4 a 15th CLAUSE, at its letter: d", EIGHT.repeat(14) + "d", -4112);
    law("4 a 15th CLAUSE, at its letter: f, whatever comes behind it", EIGHT.repeat(14) + "f((((", -4112);
    law("4 (if that can stand there): another letter", EIGHT.repeat(14) + "t1(1=1)", -1112);
    law("4 (if that can stand there): a sign", EIGHT.repeat(14) + ";", -1112);
    law("4 (if that can stand there): the end", EIGHT.repeat(14), -1112);
    law("FAULTS, the first from the left: ahead of the 15th CLAUSE", EIGHT.repeat(13) + "w1(1=);w1(1=1)", -1109);
    law("with a ; between two: lacking", "w1(1=1)w1(1=1)", -1007);
    law("with a ; between two: doubled", "w1(1=1);;w1(1=1)", -1008);
    law("with a ; between two: at the end", "w1(1=1);", -1008);
    law("with a ; between two: at the start", ";w1(1=1)", -1000);
    Script.holds("the 14th CLAUSE counts like the others", SMALL,
        "law " + "w1(1=2);".repeat(13) + "w7(1=1) = 14", "wants(0, 0, false) = 7");
  }

  /** Each sign at each place of a right text in which it can't stand. */
  private static void signs() {
    String right = "w1(1=1)";
    String signs = "wdftklpnhsbyxra0123456789()[]!&|<>=+-*/%;WT ~";
    String[] fit = {"wdf", "tklfpnhsbyxr0123456789[", "(0123456789+-*/%", "tklfpnhsbyxr0123456789[(!", "0123456789+-*/%<>=",
      "tklfpnhsbyxr0123456789[", ")0123456789+-*/%&|", ";"};
    for (int at = 0; at <= right.length(); at++) {
      for (char c : signs.toCharArray()) {
        if (fit[at].indexOf(c) >= 0) continue;
        law("1 what can't stand there: " + c + " at " + at, right.substring(0, at) + c + "=1)(1=1)", -1000 - at);
      }
    }
    law("no blanks", "w1(1= 1)", -1005);
    law("a letter that is no fact", "w1(1=e)", -1005);
    law("w is no fact", "ww(1=1)", -1001);
    law("d is no fact", "wd(1=1)", -1001);
    law("f is a fact and a CLAUSE's letter", "ff(f=f)", 1);
    for (char c : "tklfpnhsbyxr".toCharArray()) law("a FACTOR: a letter", "w" + c + "(" + c + "=" + c + ")", 1);
    law("a FACTOR: [E], not (E)", "w(1)(1=1)", -1001);
    law("a FACTOR: [E]: empty", "w[](1=1)", -1002);
    law("a FACTOR: [E]: closed by )", "w[1)(1=1)", -1003);
    law("a FACTOR: [E]: a C in it", "w[1=1](1=1)", -1003);
    law("a PIECE: (C): empty", "w1(())", -1004);
    law("a PIECE: (C): closed by ]", "w1((1=1])", -1007);
    law("a PIECE: (C): no E", "w1((1)=1)", -1005);
    law("a PIECE: E, one of < > =, and E: two of them", "w1(1=1=1)", -1006);
    law("a PIECE: E, one of < > =, and E: none", "w1(1)", -1004);
    law("a PIECE: !PIECE: before an E", "w1(!1)", -1005);
    law("a PIECE: !PIECE: within an E", "w1(1=!1)", -1005);
    law("no sign ahead of a number", "w-1(1=1)", -1001);
    law("two FACTORS without a sign", "wtk(1=1)", -1002);
    law("a number behind a letter", "wt1(1=1)", -1002);
    law("a letter behind a number", "w1t(1=1)", -1002);
    law("a second (C) of a CLAUSE", "w1(1=1)(1=1)", -1007);
    law("a CLAUSE without E", "w(1=1)", -1001);
    law("a CLAUSE without (C)", "w1;w1(1=1)", -1002);
  }

  /** Each beginning of a right text is one that ends too early, but for those that are whole. */
  private static void ends() {
    String right = "w[t+12]*3(!(1=1&2>k|3<[4]));d7(1=1)";
    for (int n = 1; n < right.length(); n++) {
      String text = right.substring(0, n);
      boolean whole = text.equals("w[t+12]*3(!(1=1&2>k|3<[4]))");
      law("1 what can't stand there (the end, too): " + text, text, whole ? 1 : -1000 - n);
    }
    law("the whole text", right, 2);
  }

  private static void digits() {
    law("a number of one to five digits: five", "w12345(1=12345)", 1);
    law("2 a sixth digit, at it", "w123456(1=1)", -2006);
    law("2 a sixth digit, at it, in a C", "w1(123456=1)", -2008);
    law("2 a sixth digit, at it, on the right of a C", "w1(1=123456)", -2010);
    law("2 a sixth digit, at it, in [", "w[123456](1=1)", -2007);
    law("2 a sixth digit: noughts count", "w000001(1=1)", -2006);
    law("2 a sixth digit at the end of the text", "w123456", -2006);
    law("five digits, and the end", "w12345", -1006);
    law("each number has five of its own", "w12345+12345*12345(1=1)", 1);
    worth("a number of one to five digits: 00007", "w00007(1=1)", 7);
    worth("a number of one to five digits: 0", "w5+0(1=1)", 5);
    worth("a number of one to five digits: 99999", "w99999-99000(99999>99998)", 999);
    law("FAULTS, the first from the left: 2 ahead of 1", "w123456)", -2006);
    law("FAULTS, the first from the left: 1 ahead of 2", "w)123456", -1001);
  }

  private static void open() {
    law("six [ in the E of a CLAUSE (it stands ahead of its C)", "w[[[[[[1]]]]]](1=1)", 1);
    law("5 a seventh [ in the E of a CLAUSE, at it", "w[[[[[[[1]]]]]]](1=1)", -5007);
    law("the ( of the CLAUSE counts: five more (", "w1((((((1=1))))))", 1);
    law("the ( of the CLAUSE counts: a sixth more (", "w1(((((((1=1)))))))", -5008);
    law("the ( of the CLAUSE counts: five [ in its C", "w1([[[[[1]]]]]=1)", 1);
    law("the ( of the CLAUSE counts: a sixth [ in its C", "w1([[[[[[1]]]]]]=1)", -5008);
    law("the ( of the CLAUSE counts: a sixth [ on the right", "w1(1=[[[[[[1]]]]]])", -5010);
    law("the ( of the CLAUSE counts: five !", "w1(!!!!!1=1)", 1);
    law("the ( of the CLAUSE counts: a sixth !", "w1(!!!!!!1=1)", -5008);
    law("( [ ! in one another: six", "w1(!(!([1]=1)))", 1);
    law("( [ ! in one another: a seventh [", "w1(!(!(![1]=1)))", -5008);
    law("( [ ! in one another: a seventh (", "w1(!(!(!(1=1))))", -5008);
    law("( [ ! in one another: a seventh !", "w1(!(!((!1=1))))", -5008);
    law("a ! is open till its PIECE ends: on the left of it", "w1(!!!!![1]=1)", -5008);
    law("a ! is open till its PIECE ends: on the right of it", "w1(!!!!!1=[1])", -5010);
    law("a ! is open till its PIECE ends: behind an &", "w1(!!!!!1=1&!!!!!1=1)", 1);
    law("a ! is open till its PIECE ends: behind a |", "w1(!!!!!1=1|[[[[[1]]]]]=1)", 1);
    law("a ! is open till its PIECE ends: behind an &, too many", "w1(!1=1&!!!!!!1=1)", -5013);
    law("a ! before (C) is open till the ) of it", "w1(!(1=1)&(((((1=1))))))", 1);
    law("a ! before (C) is open in it", "w1(!(1=1&((((1=1))))))", -5012);
    law("what is closed is not open: [", "w[1]+[2]*[3]-[4]/[5]%[6]+[[[[[[7]]]]]](1=1)", 1);
    law("what is closed is not open: (", "w1((1=1)&(1=1)&(1=1)&(1=1)&(1=1)&(1=1)&(((((1=1))))))", 1);
    law("the next CLAUSE begins anew", "w1((((((1=1))))));w[[[[[[1]]]]]]((((((1=1))))))", 1 + 1);
    law("5 in the second CLAUSE, at its place", "w1(1=1);w[[[[[[[1", -5015);
    law("a seventh that can't stand there is 1: (", "w[[[[[[(", -1007);
    law("a seventh that can't stand there is 1: !", "w[[[[[[!", -1007);
    law("a seventh that can't stand there is 1: [", "w1(((((1=1[", -1010);
    law("FAULTS, the first from the left: 5 ahead of 1", "w[[[[[[[)", -5007);
  }

  private static void choice() {
    worth("of the first CLAUSE of a letter whose C holds the E: the first", "w5(1=1);w6(1=1)", 5);
    worth("of the first CLAUSE of a letter whose C holds the E: the second", "w5(1=2);w6(1=1);w7(1=1)", 6);
    worth("of the first CLAUSE of a letter: others do not count", "d5(1=1);f6(1=1);w7(1=1)", 7);
    worth("none: 0", "w5(1=2);w6(2=1)", 0);
    worth("the first that holds, though its E is 0", "w0(1=1);w6(1=1)", 0);
    Script.holds("each letter by its own CLAUSES", SMALL, """
        law f3(1=1);d4(1=2);w5(1=1);d6(1=1);f7(1=1) = 5
        wants(0, 0, false) = 5
        lend(0, 0) = 6
        back(0, 0, 0) = 3
        """);
  }

  private static void worthBounds() {
    worth("w WANTS (0 to 1000): 1000", "w1000(1=1)", 1000);
    worth("w WANTS (0 to 1000): 1001 (E beyond its bounds is the bound)", "w1001(1=1)", 1000);
    worth("w WANTS (0 to 1000): 999", "w999(1=1)", 999);
    worth("w WANTS (0 to 1000): 1", "w1(1=1)", 1);
    worth("w WANTS (0 to 1000): 0", "w0(1=1)", 0);
    worth("w WANTS (0 to 1000): below 0", "w0-1(1=1)", 0);
    worth("w WANTS: the least int", "w65536*32768(1=1)", 0);
    worth("w WANTS: the largest int", "w65536*32768-1(1=1)", 1000);
    int[][] days = {{0, 1}, {1, 1}, {2, 2}, {59, 59}, {60, 60}, {61, 60}, {99999, 60}};
    for (int[] d : days) {
      Script.holds("d how many DAYS a BOOK is lent (1 to 60): " + d[0], SMALL, "law d" + d[0] + "(1=1) = 1", "lend(0, 0) = " + d[1]);
    }
    Script.holds("d below 0 is 1", SMALL, "law d0-5(1=1) = 1", "lend(0, 0) = 1");
    Script.holds("d none: 14", SMALL, "law d5(1=2);w5(1=1);f5(1=1) = 3", "lend(0, 0) = 14");
    int[][] fines = {{0, 0}, {1, 1}, {9999, 9999}, {10000, 10000}, {10001, 10000}, {99999, 10000}};
    for (int[] f : fines) {
      Script.holds("f the FINE when it comes back (0 to 10000): " + f[0], SMALL, "law f" + f[0] + "(1=1) = 1", "lend(0, 0)",
          "back(0, 0, 0) = " + f[1], "readerIs(0, 2) = " + f[1]);
    }
    Script.holds("f below 0 is 0", SMALL, "law f0-1(1=1) = 1", "lend(0, 0)", "back(0, 0, 0) = 0", "readerIs(0, 2) = 0");
    Script.holds("f none: 0", SMALL, "law f5(1=2);w5(1=1);d5(1=1) = 3", "lend(0, 0)", "back(0, 0, 0) = 0");
  }

  private static void letters() {
    Script.holds("t the READER's TASTE for the KIND: 0 and 9", SMALL, """
        law wt*100+7(1=1) = 1
        wants(0, 0, false) = 7
        taste(0, 0, 9)
        taste(0, 1, 5)
        taste(1, 0, 4)
        wants(0, 0, false) = 907
        """);
    Script.holds("k the KIND: 0 and 7; l the LENGTH: 1 and 9; f the FORM: 0 and 2; p the PRICE: 0 and 1000", """
        stop(1, 1, 1)
        reader(0, 0)
        book(0, 1, 0, 0)
        book(7, 9, 2, 1000)
        law wk*100+l*10+f(p=0|p=1000) = 1
        wants(0, 0, false) = 10
        wants(0, 1, false) = 792
        law wp(1=1) = 1
        wants(0, 0, false) = 0
        wants(0, 1, false) = 1000
        """);
    Script.holds("n how many of that KIND the READER has HAD: none, and all 32", """
        stop(1, 1, 1)
        2 times reader(0, 0)
        32 times book(5, 1, 0, 0)
        law wn*10+1(1=1) = 1
        wants(0, 0, false) = 1
        32 times had(0, %)
        wants(0, 31, true) = 321
        wants(1, 31, true) = 1
        """);
    Script.holds("n how many of that KIND: others do not count", """
        stop(1, 1, 1)
        reader(0, 0)
        3 times book(5, 1, 0, 0)
        3 times book(6, 1, 0, 0)
        had(0, 0)
        had(0, 3)
        had(0, 4)
        law wn(1=1) = 1
        wants(0, 1, false) = 1
        wants(0, 5, false) = 2
        """);
    Script.holds("h how many BOOKS they have OUT", SMALL, """
        law wh*10+1(1=1) = 1
        wants(0, 3, false) = 1
        lend(0, 0)
        lend(1, 0)
        lend(2, 1)
        wants(0, 3, false) = 21
        back(0, 0, 0)
        wants(0, 3, false) = 11
        lost(1)
        wants(0, 3, false) = 1
        """);
    Script.holds("s their STOP: 0 and 9; b the BOOK's number: 0 and 31", """
        10 times stop(%, 0, 1)
        10 times reader(%, 0)
        32 times book(0, 1, 0, 0)
        law ws*100+b(1=1) = 1
        wants(0, 0, false) = 0
        wants(9, 31, false) = 931
        wants(9, 0, false) = 900
        wants(0, 31, false) = 31
        """);
    Script.holds("y NOW: 0 and 199", SMALL, """
        law wy+1(1=1) = 1
        wants(0, 0, false) = 1
        now(199)
        wants(0, 0, false) = 200
        """);
    Script.holds("x how many DAYS late it is (0: not): on the DUE DAY, and a fortnight behind it", SMALL, """
        law fx+1(1=1);d14(1=1) = 2
        lend(0, 0) = 14
        lend(1, 0) = 14
        lend(2, 0) = 14
        back(0, 0, 0) = 1
        now(14)
        back(1, 0, 0) = 1
        now(28)
        back(2, 0, 0) = 15
        """);
    Script.holds("x how many DAYS late: one", SMALL, """
        law fx*10(1=1);d13(1=1) = 2
        lend(0, 0) = 13
        now(14)
        back(0, 0, 0) = 10
        """);
    Script.holds("x (in w, d: 0)", SMALL, """
        law wx+1(1=1);d[x+3]*[x+1](1=1) = 2
        lend(0, 0) = 3
        now(14)
        wants(0, 0, true) = 1
        wants(1, 0, false) = 1
        lend(1, 0) = 17
        """);
    Script.holds("r how many READERS of that STOP have HAD it: none, all, and none of another", """
        2 times stop(%, 0, 1)
        15 times reader(0, 0)
        reader(1, 0)
        book(0, 1, 0, 0)
        law wr+1(1=1) = 1
        wants(0, 0, false) = 1
        had(15, 0)
        wants(0, 0, false) = 1
        15 times had(%, 0)
        wants(0, 0, true) = 16
        wants(15, 0, true) = 2
        """);
  }

  private static void arithmetic() {
    worth("from the left on: -", "w20-3-2(1=1)", 15);
    worth("from the left on: /", "w100/7/2(1=1)", 7);
    worth("from the left on: * / %", "w100%7*3(1=1)", 6);
    worth("from the left on: / *", "w100/7*7(1=1)", 98);
    worth("TERMS ahead of + and -", "w2+3*4-10/5(1=1)", 12);
    worth("[E] ahead of all", "w[2+3]*[10-4]/[1+1](1=1)", 15);
    worth("32 bits: the sum wraps", "w5([65536*32768-1]+1<0)", 5);
    worth("32 bits: the difference wraps", "w5(65536*32768-1>0)", 5);
    worth("32 bits: the product wraps to 0", "w5(65536*65536=0)", 5);
    worth("32 bits: the product wraps", "w5(99999*99999=14098*[99999+1]+65409)", 5);
    worth("as the machine does: the least int by -1", "w5(65536*32768/[0-1]=65536*32768)", 5);
    worth("as the machine does: the least int, the rest by -1", "w5(65536*32768%[0-1]=0)", 5);
    worth("as the machine does: / towards 0", "w5([0-7]/2=0-3&7/[0-2]=0-3&[0-7]/[0-2]=3)", 5);
    worth("as the machine does: % with the sign of the left", "w5([0-7]%2=0-1&7%[0-2]=1&[0-7]%[0-2]=0-1)", 5);
    worth("< of the ends, whose difference wraps", "w5(65536*32768<65536*32768-1)", 5);
    worth("> of the ends, whose difference wraps", "w5(65536*32768-1>65536*32768)", 5);
    worth("< is not of like ones", "w5(3<3);w6(1=1)", 6);
    worth("> is not of like ones", "w5(3>3);w6(1=1)", 6);
    worth("< of neighbours", "w5(3<4&!4<3)", 5);
    worth("> of neighbours", "w5(4>3&!3>4)", 5);
    worth("= of neighbours", "w5(3=3&!3=4&!4=3)", 5);
  }

  private static void tests() {
    worth("PARTS, one of which must hold: the first", "w5(1=1|1=2|1=2)", 5);
    worth("PARTS, one of which must hold: the last", "w5(1=2|1=2|1=1)", 5);
    worth("PARTS, one of which must hold: none", "w5(1=2|1=2|1=2)", 0);
    worth("PIECES, all of which must: all", "w5(1=1&1=1&1=1)", 5);
    worth("PIECES, all of which must: not the first", "w5(1=2&1=1&1=1)", 0);
    worth("PIECES, all of which must: not the last", "w5(1=1&1=1&1=2)", 0);
    worth("& ahead of |: left", "w5(1=2&1=2|1=1)", 5);
    worth("& ahead of |: right", "w5(1=1|1=2&1=2)", 5);
    worth("(C) ahead of all: left", "w5(1=2&(1=2|1=1))", 0);
    worth("(C) ahead of all: right", "w5((1=1|1=1)&1=2)", 0);
    worth("!PIECE: of one that holds", "w5(!1=1)", 0);
    worth("!PIECE: of one that does not", "w5(!1=2)", 5);
    worth("!PIECE: of one that holds: <", "w5(!1<2)", 0);
    worth("!PIECE: of one that holds: >", "w5(!2>1)", 0);
    worth("!PIECE: of one that does not: <", "w5(!2<1)", 5);
    worth("!PIECE: of one that does not: >", "w5(!1>2)", 5);
    worth("!PIECE: twice", "w5(!!1=1)", 5);
    worth("!PIECE: of the next PIECE alone", "w5(!1=2&1=1)", 5);
    worth("!PIECE: not of what is behind |", "w5(!1=1|1=1)", 5);
    worth("!PIECE: of a (C)", "w5(!(1=1|1=2))", 0);
  }

  private static void refused() {
    worth("what is divided by 0 is REFUSED: an E is 0: /", "w5+1/0(1=1);w9(1=1)", 0);
    worth("what is divided by 0 is REFUSED: an E is 0: %", "w5+1%0(1=1);w9(1=1)", 0);
    worth("what is divided by 0 is REFUSED: an E is 0: 0/0", "w5+0/0(1=1)", 0);
    worth("what is divided by 0 is REFUSED: an E is 0: in [", "w5+[1/0]*0(1=1)", 0);
    worth("what is divided by 0 is REFUSED: an E is 0: by a sum that is 0", "w5+1/[3-2-1](1=1)", 0);
    worth("what is divided by 0 is REFUSED: an E is 0: by a letter that is 0", "w5+1/t(1=1)", 0);
    worth("divided by 1 and by -1 is not", "w5/1+5/[0-1]+3(1=1)", 3);
    worth("what is divided by 0 is REFUSED: a C does not hold: left", "w5(1/0=0);w9(1=1)", 9);
    worth("what is divided by 0 is REFUSED: a C does not hold: right", "w5(0=1%0);w9(1=1)", 9);
    worth("what is divided by 0 is REFUSED: a C does not hold, with !", "w5(!1/0=0);w9(1=1)", 9);
    worth("a C that is REFUSED: the next CLAUSE is as before", "w5(1/0=0);w8/2(8/2=4)", 4);
    worth("Of a C as much is asked, from the left, as matters: behind | when it holds", "w5(1=1|1/0=0);w9(1=1)", 5);
    worth("Of a C as much is asked, from the left, as matters: behind | when it does not", "w5(1=2|1/0=0);w9(1=1)", 9);
    worth("Of a C as much is asked, from the left, as matters: behind & when it holds", "w5(1=1&1/0=0);w9(1=1)", 9);
    worth("Of a C as much is asked, from the left, as matters: behind & when it does not", "w5(1=2&1/0=0|1=1);w9(1=1)", 5);
    worth("Of a C as much is asked, from the left, as matters: ahead of |", "w5(1/0=0|1=1);w9(1=1)", 9);
    worth("Of a C as much is asked, from the left, as matters: in (C)", "w5((1=1|1/0=0)&(1=1|1/0=0));w9(1=1)", 5);
    worth("Of a C as much is asked, from the left, as matters: in !(C)", "w5(!(1=2&1/0=0));w9(1=1)", 5);
    worth("the E of a CLAUSE whose C does not hold is not asked", "w1/0(1=2);w9(1=1)", 9);
    Script.holds("d: an E is 0, and the bound 1", SMALL, "law d5+1/0(1=1) = 1", "lend(0, 0) = 1");
    Script.holds("f: an E is 0", SMALL, "law f5+1/x(1=1) = 1", "lend(0, 0) = 14", "back(0, 0, 0) = 0");
  }
}
