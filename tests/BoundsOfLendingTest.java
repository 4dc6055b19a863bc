/** The bounds that the document's part 2 and its promises 14 to 26 name: one script a sentence. */
public final class BoundsOfLendingTest {
  /** Stops 0 (10, 0) and 1 (0, 10) by van 0 on days 2, stop 2 (10, 10) by van 1 on days 3; readers 0, 1 of 0; 2 of 1; 3 of 2. */
  private static final String SMALL = """
      stop(10, 0, 20)
      stop(0, 10, 30)
      stop(10, 10, 40)
      visit(0, 0, 2)
      visit(1, 0, 2)
      visit(2, 1, 3)
      reader(0, 0)
      reader(0, 0)
      reader(1, 0)
      reader(2, 0)
      """;

  /** Books 0 to 4 of length 2 and price 50; 0 and 1 on van 0, 2 on van 1; day 2. */
  private static final String BOOKS = """
      5 times book(0, 2, 0, 50)
      move(0, 0)
      move(1, 0)
      move(2, 1)
      now(2)
      """;

  /** One stop that van 0 visits on days 0, sixteen readers, each with the book of their number out. */
  private static final String SIXTEEN = """
      stop(1, 1, 1)
      visit(0, 0, 0)
      16 times reader(0, 0)
      16 times book(0, 1, 0, 0)
      16 times move(%, 0)
      16 times lend(%, %)
      """;

  public static void main(String[] args) {
    move();
    acts();
    lend();
    back();
    lost();
    told();
    pays();
    ask();
    aboard();
    promise();
    promiseOut();
    whyNot();
    whyNotOrder();
    ring();
    Script.end("bounds of lending");
  }

  private static void move() {
    Script.holds("14: false: no such ones", SMALL, """
        move(0, 0) = false
        32 times book(0, 1, 0, 0)
        move(-1, 0) = false
        move(32, 0) = false
        move(0, -2) = false
        move(0, 3) = false
        count(6) = 0
        move(31, 2) = true
        move(0, 0) = true
        count(6) = 2
        """);
    Script.holds("14: false: it is there", SMALL, BOOKS, """
        move(4, NONE) = false
        move(0, 0) = false
        move(2, 1) = false
        count(6) = 3
        move(0, NONE) = true
        move(0, NONE) = false
        count(6) = 4
        """);
    Script.holds("14: false: it is OUT, LOST", SMALL, BOOKS, """
        lend(0, 0) = 16
        move(0, NONE) = false
        move(0, 0) = false
        move(0, 2) = false
        lost(0) = 50
        move(0, NONE) = false
        move(0, 2) = false
        bookIs(0, 0) = 40
        """);
    Script.holds("LENGTHS there within the SHELF: from THE STORE", """
        book(0, 5, 0, 0)
        book(0, 4, 0, 0)
        book(0, 1, 0, 0)
        shelf(0, 9)
        move(0, 0) = true
        move(1, 0) = true
        count(10) = 9
        move(2, 0) = false
        bookIs(2, 0) = 0
        """);
    Script.holds("LENGTHS there within the SHELF: from another VAN", """
        book(0, 5, 0, 0)
        book(0, 5, 0, 0)
        move(0, 0)
        move(1, 1)
        shelf(0, 9)
        move(1, 0) = false
        bookIs(1, 0) = 2
        shelf(0, 10)
        move(1, 0) = true
        count(10) = 10
        count(11) = 0
        """);
    Script.holds("a SHELF of 0 takes none, THE STORE takes all", """
        32 times book(0, 9, 0, 0)
        shelf(0, 0) = true
        move(0, 0) = false
        shelf(0, 9) = true
        move(0, 0) = true
        move(0, NONE) = true
        """);
  }

  private static void acts() {
    String almost = SMALL + """
        book(0, 1, 0, 7)
        book(0, 1, 0, 7)
        book(0, 1, 0, 7)
        now(2)
        move(1, 0)
        move(2, 0)
        lend(1, 0) = 16
        move(0, 0)
        """;
    String there = "move(0, 1) = true\nmove(0, 0) = true\n";
    Script.holds("14: 200 acts", almost, there.repeat(97), """
        count(6) = 198
        move(0, 1) = true
        count(6) = 199
        move(0, 0) = true
        count(6) = 200
        move(0, 1) = false
        move(2, NONE) = false
        count(6) = 200
        bookIs(0, 0) = 1
        where(0, 2, 2) = 1
        """);
    String full = almost + there.repeat(98);
    Script.holds("15: NONE: 200 acts are there", full, """
        count(6) = 200
        ask(0, 2, 2) = true
        lend(2, 0) = NONE
        bookIs(2, 0) = 1
        readerIs(0, 0) = 1
        readerIs(0, 1) = 1
        readerIs(0, 4) = 1
        """);
    Script.holds("16: NONE: 200 acts", full, """
        back(1, 0, 2) = NONE
        bookIs(1, 0) = 10
        bookIs(1, 3) = 0
        counts(4, 1) = 0
        readerIs(0, 0) = 1
        """);
    Script.holds("17: NONE: 200 acts", full, """
        lost(1) = NONE
        bookIs(1, 0) = 10
        readerIs(0, 2) = 0
        """);
    String one = almost + there.repeat(97) + "move(0, 1)\n";
    Script.holds("15: the 200th act can be LENT", one, "lend(2, 0) = 16", "count(6) = 200", "lost(2) = NONE");
    Script.holds("16: the 200th act can be BACK", one, "back(1, 0, 0) = 0", "count(6) = 200", "lend(1, 0) = NONE");
    Script.holds("17: the 200th act can be LOST", one, "lost(1) = 7", "count(6) = 200", "move(0, 0) = false");
  }

  private static void lend() {
    Script.holds("15: NONE: no such ones", SMALL, BOOKS, """
        lend(-1, 0) = NONE
        lend(5, 0) = NONE
        lend(0, -1) = NONE
        lend(0, 4) = NONE
        lend(min, max) = NONE
        count(6) = 3
        lend(0, 0) = 16
        """);
    Script.holds("15: NONE: it is on no VAN", SMALL, BOOKS, """
        lend(3, 0) = NONE
        lend(0, 0) = 16
        lend(0, 0) = NONE
        lend(0, 1) = NONE
        lost(0)
        lend(0, 0) = NONE
        counts(5, 0) = 1
        """);
    Script.holds("15: NONE: that VAN has no VISIT at the STOP of READER r NOW: another STOP, another VAN", SMALL, BOOKS, """
        lend(0, 3) = NONE
        lend(2, 0) = NONE
        lend(2, 3) = NONE
        counts(5, 0) = 0
        """);
    Script.holds("15: NONE: that VAN has no VISIT at the STOP of READER r NOW: the DAY before, the DAY behind", SMALL, """
        book(0, 1, 0, 0)
        move(0, 0)
        now(1)
        lend(0, 0) = NONE
        now(3)
        lend(0, 0) = NONE
        now(16)
        lend(0, 0) = 30
        """);
    Script.holds("15: NONE: that VAN has no VISIT: the DAY is LOST; one that was PUT is a VISIT", SMALL, BOOKS, """
        lostDay(0, 2, 1, 1000) = 2
        put(0, 1) = 1
        lend(0, 0) = NONE
        now(3)
        lend(0, 0) = NONE
        lend(2, 0) = 17
        """);
    Script.holds("DUE on NOW and d DAYS: beyond DAY 199", SMALL, BOOKS, """
        now(198)
        law d60(1=1) = 1
        lend(0, 0) = 258
        bookIs(0, 1) = 258
        check(0) = 0
        tape 0 10 258 1 1 NONE 2 2 NONE 3 0 NONE 4 0 NONE
        check(5) = NONE
        """);
    Script.holds("A BOOK that is LENT is not asked for by that READER any more", SMALL, BOOKS, """
        ask(0, 0, 2) = true
        ask(1, 0, 2) = true
        ask(0, 1, 2) = true
        lend(0, 0) = 16
        readerIs(0, 4) = 1
        readerIs(1, 4) = 1
        count(7) = 2
        unask(0, 0) = false
        """);
    Script.holds("LENT again to who has HAD it: LOANS grow, HAD does not", SMALL, BOOKS, """
        lend(0, 0) = 16
        back(0, 0, 0) = 0
        lend(0, 0) = 16
        bookIs(0, 2) = 2
        bookIs(0, 4) = 1
        readerIs(0, 0) = 1
        readerIs(0, 1) = 2
        readerIs(0, 3) = 1
        """);
    Script.holds("d: h and n are those before the BOOK is LENT", SMALL, BOOKS, """
        law d1+h*10+n+r*5(1=1) = 1
        lend(0, 0) = 3
        lend(1, 0) = 14
        """);
  }

  private static void back() {
    Script.holds("16: NONE: it is not OUT", SMALL, BOOKS, """
        back(3, 0, 0) = NONE
        back(0, 0, 0) = NONE
        lend(0, 0)
        lost(0)
        back(0, 0, 0) = NONE
        """);
    Script.holds("16: NONE: no such ones", SMALL, BOOKS, """
        lend(0, 0)
        back(-1, 0, 0) = NONE
        back(5, 0, 0) = NONE
        back(0, -1, 0) = NONE
        back(0, 3, 0) = NONE
        back(0, 0, -1) = NONE
        back(0, 0, 4) = NONE
        bookIs(0, 0) = 10
        count(6) = 4
        back(0, 0, 0) = 0
        """);
    Script.holds("16: NONE: that VAN has no VISIT at the STOP of READER r NOW", SMALL, BOOKS, """
        lend(0, 0)
        back(0, 1, 0) = NONE
        back(0, 0, 3) = NONE
        back(0, 1, 3) = NONE
        now(3)
        back(0, 0, 0) = NONE
        back(0, 1, 0) = NONE
        back(0, 1, 3) = 0
        bookIs(0, 0) = 2
        """);
    Script.holds("16: NONE: the SHELF, just full and one too long", SMALL, BOOKS, """
        lend(0, 0)
        shelf(0, 3) = true
        back(0, 0, 0) = NONE
        bookIs(0, 0) = 10
        shelf(0, 4) = true
        back(0, 0, 0) = 0
        count(10) = 4
        """);
    Script.holds("MIXED if that is not who has it: at the same STOP, at another, not", SMALL, BOOKS, """
        lend(0, 0)
        back(0, 0, 0) = 0
        bookIs(0, 3) = 0
        lend(0, 0)
        back(0, 0, 1) = 0
        bookIs(0, 3) = 1
        counts(4, 0) = 1
        lend(0, 0)
        back(0, 0, 2) = 0
        bookIs(0, 3) = 2
        counts(4, 0) = 1
        counts(4, 1) = 1
        bookIs(1, 3) = 0
        """);
    Script.holds("the FINE is OWED by who has it", SMALL, BOOKS, """
        law f7(1=1) = 1
        lend(0, 0)
        back(0, 0, 2) = 7
        readerIs(0, 2) = 7
        readerIs(2, 2) = 0
        lend(0, 0)
        back(0, 0, 0) = 7
        readerIs(0, 2) = 14
        """);
    Script.holds("the FINE (letters of who has it, h with it)", SMALL, BOOKS, """
        law fh*1000+s*100+t*10+n(1=1) = 1
        taste(0, 0, 3)
        taste(2, 0, 8)
        lend(0, 0)
        back(0, 0, 2) = 1031
        lend(0, 2)
        lend(1, 2)
        back(0, 0, 0) = 2182
        back(1, 0, 0) = 1182
        """);
  }

  private static void lost() {
    Script.holds("17: NONE: it is not OUT, no such one", SMALL, BOOKS, """
        lost(-1) = NONE
        lost(5) = NONE
        lost(3) = NONE
        lost(0) = NONE
        lend(0, 0)
        lost(0) = 50
        lost(0) = NONE
        readerIs(0, 2) = 50
        count(6) = 5
        """);
    Script.holds("LOST: OUT no more, DUE no more, HAD still", SMALL, BOOKS, """
        lend(0, 0)
        lost(0) = 50
        readerIs(0, 0) = 0
        readerIs(0, 1) = 1
        readerIs(0, 3) = 1
        bookIs(0, 0) = 40
        bookIs(0, 1) = NONE
        """);
  }

  private static void told() {
    Script.holds("18: what 0 to 4; NONE for others", SMALL, BOOKS, """
        bookIs(0, -1) = NONE
        bookIs(0, 5) = NONE
        bookIs(0, min) = NONE
        bookIs(0, max) = NONE
        bookIs(-1, 0) = NONE
        bookIs(5, 0) = NONE
        lend(0, 2)
        bookIs(0, 0) = 12
        bookIs(0, 1) = 16
        bookIs(0, 2) = 1
        bookIs(0, 3) = 0
        bookIs(0, 4) = 1
        """);
    Script.holds("18: where (as for check()): each of them", SMALL, BOOKS, """
        bookIs(3, 0) = 0
        bookIs(0, 0) = 1
        bookIs(2, 0) = 2
        move(2, 2)
        bookIs(2, 0) = 3
        lend(0, 0)
        bookIs(0, 0) = 10
        lost(0)
        bookIs(0, 0) = 40
        """);
    Script.holds("18: where: 10 and the READER: 15", SIXTEEN, "bookIs(15, 0) = 25", "bookIs(0, 0) = 10");
    Script.holds("18: how many READERS have HAD it: all", SIXTEEN, "16 times had(%, 3)", "bookIs(3, 4) = 16", "bookIs(4, 4) = 1");
    Script.holds("19: what 0 to 4; NONE for others", SMALL, BOOKS, """
        readerIs(0, -1) = NONE
        readerIs(0, 5) = NONE
        readerIs(0, min) = NONE
        readerIs(-1, 0) = NONE
        readerIs(4, 0) = NONE
        lend(0, 0)
        had(0, 1)
        ask(0, 4, 2)
        readerIs(0, 0) = 1
        readerIs(0, 1) = 1
        readerIs(0, 2) = 0
        readerIs(0, 3) = 2
        readerIs(0, 4) = 1
        """);
    Script.holds("19: what 3: all 32; what 4: all 32", """
        stop(1, 1, 1)
        visit(0, 0, 0)
        reader(0, 0)
        32 times book(0, 1, 0, 0)
        32 times had(0, %) = true
        32 times ask(0, %, 0) = true
        readerIs(0, 3) = 32
        readerIs(0, 4) = 32
        count(7) = 32
        aboard(0, 0) = 4294967295
        """);
  }

  private static void pays() {
    Script.holds("20: NONE: no such ones (1 to what is OWED)", SMALL, BOOKS, """
        pays(0, 1) = NONE
        lend(0, 0)
        lost(0) = 50
        pays(0, 0) = NONE
        pays(0, -1) = NONE
        pays(0, min) = NONE
        pays(0, 51) = NONE
        pays(0, max) = NONE
        pays(1, 1) = NONE
        pays(-1, 1) = NONE
        pays(4, 1) = NONE
        readerIs(0, 2) = 50
        pays(0, 1) = 49
        pays(0, 50) = NONE
        pays(0, 49) = 0
        pays(0, 1) = NONE
        """);
  }

  private static void ask() {
    Script.holds("ASKED: for a DAY (NOW to 199)", SMALL, """
        book(0, 1, 0, 0)
        now(16)
        ask(0, 0, 2) = false
        ask(0, 0, 15) = false
        ask(0, 0, -1) = false
        ask(3, 0, 200) = false
        ask(3, 0, max) = false
        count(7) = 0
        ask(0, 0, 16) = true
        ask(3, 0, 199) = true
        count(7) = 2
        """);
    Script.holds("21: false: no such ones", SMALL, BOOKS, """
        ask(-1, 0, 2) = false
        ask(4, 0, 2) = false
        ask(0, -1, 2) = false
        ask(0, 5, 2) = false
        count(7) = 0
        """);
    Script.holds("21: false: no VISIT at their STOP on that DAY", SMALL, BOOKS, """
        ask(0, 0, 15) = false
        ask(0, 0, 17) = false
        ask(3, 0, 16) = false
        ask(0, 0, 16) = true
        lostDay(0, 30, 1, 1) = 0
        ask(0, 1, 30) = false
        count(7) = 1
        """);
    Script.holds("21: for a DAY to which their STOP was PUT", SMALL, BOOKS, """
        lostDay(0, 16, 1, 1000) = 2
        ask(0, 0, 16) = false
        ask(0, 0, 17) = true
        """);
    Script.holds("21: false: they asked for it", SMALL, BOOKS, """
        ask(0, 0, 2) = true
        ask(0, 0, 2) = false
        ask(0, 0, 16) = false
        aboard(16, 0) = 0
        ask(1, 0, 2) = true
        ask(0, 1, 2) = true
        count(7) = 3
        """);
    Script.holds("21: false: they have it OUT", SMALL, BOOKS, """
        lend(0, 0)
        ask(0, 0, 16) = false
        ask(1, 0, 16) = true
        back(0, 0, 0)
        ask(0, 0, 16) = true
        """);
    Script.holds("22: false: they did not, no such ones", SMALL, BOOKS, """
        unask(0, 0) = false
        ask(0, 0, 2)
        unask(1, 0) = false
        unask(0, 1) = false
        unask(-1, 0) = false
        unask(4, 0) = false
        unask(0, -1) = false
        unask(0, 5) = false
        count(7) = 1
        unask(0, 0) = true
        unask(0, 0) = false
        count(7) = 0
        """);
  }

  private static void aboard() {
    Script.holds("23: -1: no such ones", SMALL, """
        aboard(-1, 0) = -1
        aboard(200, 0) = -1
        aboard(0, -1) = -1
        aboard(0, 3) = -1
        aboard(min, max) = -1
        aboard(0, 0) = 0
        aboard(199, 2) = 0
        """);
    Script.holds("23: as bits: BOOKS 0 and 31", SMALL, """
        32 times book(0, 1, 0, 0)
        ask(0, 31, 2)
        aboard(2, 0) = 2147483648
        ask(2, 0, 2)
        aboard(2, 0) = 2147483649
        """);
    Script.holds("ON BOARD: of that DAY alone, of that VAN alone", SMALL, BOOKS, """
        ask(0, 0, 2)
        ask(1, 1, 16)
        ask(3, 2, 3)
        aboard(2, 0) = 1
        aboard(16, 0) = 2
        aboard(30, 0) = 0
        aboard(2, 1) = 0
        aboard(3, 1) = 4
        """);
    Script.holds("ON BOARD: READERS whose STOP it VISITS then: two VANS there, one LOST", SMALL, BOOKS, """
        visit(2, 1, 2)
        lostDay(1, 16, 14, 1) = 1
        # put to day 30, where van 1 visits it anyway
        ask(3, 2, 30) = true
        visit(2, 0, 2)
        aboard(30, 1) = 4
        aboard(30, 0) = 4
        lostDay(0, 30, 1, 1)
        aboard(30, 0) = 0
        aboard(30, 1) = 4
        """);
  }

  private static void promise() {
    Script.holds("24: NONE: no such ones", SMALL, BOOKS, """
        promise(-1, 0) = NONE
        promise(4, 0) = NONE
        promise(0, -1) = NONE
        promise(0, 5) = NONE
        """);
    Script.holds("24: in THE STORE: from NOW on", SMALL, """
        book(0, 1, 0, 0)
        promise(0, 0) = 2
        now(2)
        promise(0, 0) = 2
        now(3)
        promise(0, 0) = 16
        """);
    Script.holds("24: on that VAN NOW: from NOW on; on another VAN: from the next DAY on", SMALL, BOOKS, """
        promise(0, 0) = 2
        promise(0, 2) = 16
        promise(3, 0) = 3
        now(3)
        promise(3, 2) = 3
        promise(3, 0) = 17
        promise(0, 0) = 16
        """);
    Script.holds("24: on another VAN, and a VISIT on the next DAY", SMALL, BOOKS, """
        visit(0, 0, 3)
        promise(0, 2) = 3
        visit(0, 0, 2)
        now(198)
        promise(3, 0) = 199
        now(199)
        promise(3, 0) = -2
        """);
    Script.holds("24: -2: there is none up to DAY 199", SMALL, BOOKS, """
        stop(1, 1, 1)
        reader(3, 0)
        promise(4, 3) = -2
        now(198)
        promise(0, 3) = 198
        promise(3, 3) = 199
        now(199)
        promise(0, 3) = -2
        promise(3, 3) = 199
        """);
    Script.holds("24: LOST: none", SMALL, BOOKS, """
        lend(0, 0)
        lost(0)
        promise(0, 0) = -2
        promise(3, 0) = -2
        """);
  }

  private static void promiseOut() {
    Script.holds("OUT: on that DAY if it is the same STOP, DUE on a VISIT", SMALL, BOOKS, """
        lend(0, 0) = 16
        promise(1, 0) = 16
        promise(0, 0) = 16
        """);
    Script.holds("OUT: on a DAY behind that of the first VISIT at the STOP of who has it", SMALL, BOOKS, """
        lend(0, 0) = 16
        promise(2, 0) = 30
        promise(3, 0) = 17
        """);
    Script.holds("OUT: first VISIT from DUE: the DAY before it does not count", SMALL, BOOKS, """
        law d15(1=1) = 1
        lend(0, 0) = 17
        promise(1, 0) = 30
        promise(3, 0) = 31
        """);
    Script.holds("OUT: first VISIT from DUE: DUE the DAY before a VISIT", SMALL, BOOKS, """
        law d13(1=1) = 1
        lend(0, 0) = 15
        promise(1, 0) = 16
        promise(3, 0) = 17
        """);
    Script.holds("OUT: from NOW if that is past: DUE yesterday, today and tomorrow", SMALL, BOOKS, """
        law d13(1=1) = 1
        lend(0, 0) = 15
        law d14(1=1) = 1
        lend(1, 0) = 16
        now(16)
        promise(1, 0) = 16
        promise(1, 1) = 16
        promise(3, 0) = 17
        now(17)
        promise(1, 0) = 30
        promise(1, 1) = 30
        promise(3, 0) = 31
        """);
    Script.holds("OUT: DUE behind DAY 199, and just before", SMALL, BOOKS, """
        now(184)
        lend(0, 0) = 198
        law d15(1=1) = 1
        lend(1, 0) = 199
        promise(1, 0) = 198
        promise(3, 0) = 199
        promise(2, 0) = -2
        promise(1, 1) = -2
        promise(3, 1) = -2
        now(185)
        law d60(1=1) = 1
        lend(2, 3) = 245
        promise(3, 2) = -2
        """);
    Script.holds("OUT: the STOP of who has it has no VISIT any more", SMALL, BOOKS, """
        lend(0, 0) = 16
        visit(0, NONE, 0)
        promise(3, 0) = -2
        promise(1, 0) = -2
        """);
    Script.holds("OUT: who has it is of a STOP that was PUT to a DAY", SMALL, BOOKS, """
        lend(0, 0) = 16
        lostDay(0, 16, 1, 1000) = 2
        promise(1, 0) = 17
        promise(3, 0) = 31
        """);
  }

  private static void whyNot() {
    Script.holds("25: NONE: READER r did not ask for BOOK b, no such ones", SMALL, BOOKS, """
        whyNot(0, 0) = NONE
        ask(0, 0, 2)
        whyNot(0, 1) = NONE
        whyNot(1, 0) = NONE
        whyNot(-1, 0) = NONE
        whyNot(4, 0) = NONE
        whyNot(0, -1) = NONE
        whyNot(0, 5) = NONE
        whyNot(0, 0) = 0
        """);
    Script.holds("25: NONE: the DAY is past", SMALL, BOOKS, """
        ask(0, 0, 2)
        whyNot(0, 0) = 0
        now(3)
        whyNot(0, 0) = NONE
        """);
    Script.holds("1 it is LOST", SMALL, BOOKS, """
        ask(1, 0, 16)
        lend(0, 0)
        whyNot(1, 0) = 0
        lost(0)
        whyNot(1, 0) = 1
        """);
    Script.holds("2 there is no VISIT at their STOP on that DAY any more: told anew", SMALL, BOOKS, """
        ask(0, 0, 16)
        visit(0, 0, 3)
        whyNot(0, 0) = 2
        visit(0, 1, 2)
        whyNot(0, 0) = 0
        visit(0, NONE, 0)
        whyNot(0, 0) = 2
        """);
    Script.holds("2 there is no VISIT at their STOP on that DAY any more: LOST", SMALL, BOOKS, """
        ask(0, 0, 16)
        lostDay(1, 16, 1, 1)
        whyNot(0, 0) = 0
        lostDay(0, 16, 1, 1)
        whyNot(0, 0) = 2
        """);
    Script.holds("3 it is OUT and the PROMISE is a later DAY", SMALL, BOOKS, """
        lend(0, 0) = 16
        ask(1, 0, 2)
        ask(2, 0, 16)
        ask(3, 0, 17)
        whyNot(1, 0) = 3
        whyNot(2, 0) = 3
        unask(1, 0)
        unask(2, 0)
        whyNot(3, 0) = 0
        ask(1, 0, 16)
        whyNot(1, 0) = 0
        """);
    Script.holds("3 (or none)", SMALL, BOOKS, """
        lend(0, 0) = 16
        ask(3, 0, 199)
        whyNot(3, 0) = 0
        visit(0, NONE, 0)
        whyNot(3, 0) = 3
        """);
    Script.holds("4 that DAY is NOW and it is on a VAN that does not VISIT their STOP", SMALL, BOOKS, """
        ask(0, 2, 2)
        ask(1, 0, 2)
        ask(2, 3, 2)
        whyNot(0, 2) = 4
        whyNot(1, 0) = 0
        whyNot(2, 3) = 0
        """);
    Script.holds("4 that DAY is NOW: not for the next DAY", SMALL, BOOKS, """
        ask(3, 0, 3)
        whyNot(3, 0) = 0
        now(3)
        whyNot(3, 0) = 4
        """);
    Script.holds("6 LENGTHS of all ON BOARD that DAY are above the SHELF: just within, and one above", SMALL, BOOKS, """
        ask(0, 0, 2)
        ask(1, 1, 2)
        ask(2, 3, 2)
        shelf(0, 6)
        whyNot(0, 0) = 0
        shelf(0, 5)
        whyNot(0, 0) = 6
        whyNot(1, 1) = 6
        whyNot(2, 3) = 6
        unask(2, 3)
        whyNot(0, 0) = 0
        """);
    Script.holds("6 of the lowest VAN that VISITS their STOP then", SMALL, BOOKS, """
        # stop 0 by van 0 and, put there for van 2, by van 1 on day 17
        visit(0, 2, 2)
        lostDay(2, 16, 1, 1000) = 1
        put(0, 0) = 17
        put(0, 1) = 1
        visit(0, 0, 3)
        ask(0, 0, 17)
        visits(0, 0, 17) = 1
        visits(1, 0, 17) = 1
        shelf(1, 2)
        ask(3, 1, 17)
        whyNot(0, 0) = 0
        whyNot(3, 1) = 6
        shelf(1, 30)
        shelf(0, 4)
        move(0, NONE)
        move(1, NONE)
        shelf(0, 1) = true
        whyNot(0, 0) = 6
        whyNot(3, 1) = 0
        """);
    Script.holds("6 LENGTHS of all ON BOARD: BOOKS 0 and 31, all that there are", SMALL, """
        book(0, 5, 0, 0)
        30 times book(0, 1, 0, 0)
        book(0, 7, 0, 0)
        ask(0, 0, 2)
        ask(1, 31, 2)
        shelf(0, 12)
        whyNot(0, 0) = 0
        whyNot(1, 31) = 0
        shelf(0, 11)
        whyNot(0, 0) = 6
        whyNot(1, 31) = 6
        """);
    Script.holds("0: it could be on board", SMALL, BOOKS, "ask(0, 3, 198)", "whyNot(0, 3) = 0");
  }

  private static void whyNotOrder() {
    Script.holds("5 another READER asked for it for that DAY and is of a lower number", SMALL, BOOKS, """
        ask(1, 0, 16)
        ask(2, 0, 16)
        whyNot(1, 0) = 0
        whyNot(2, 0) = 5
        ask(0, 0, 16)
        whyNot(1, 0) = 5
        whyNot(0, 0) = 0
        """);
    Script.holds("5 another READER asked for it for a DAY ahead of that DAY", SMALL, BOOKS, """
        ask(0, 0, 30)
        whyNot(0, 0) = 0
        ask(3, 0, 31)
        whyNot(0, 0) = 0
        whyNot(3, 0) = 5
        ask(2, 0, 16)
        whyNot(0, 0) = 5
        whyNot(2, 0) = 0
        """);
    Script.holds("5 for a DAY from NOW on: that of NOW counts, a past one does not", SMALL, BOOKS, """
        ask(2, 0, 2)
        ask(0, 0, 16)
        whyNot(0, 0) = 5
        now(3)
        whyNot(0, 0) = 0
        """);
    Script.holds("5 another READER for another BOOK does not matter", SMALL, BOOKS, """
        ask(0, 1, 16)
        ask(1, 0, 16)
        whyNot(1, 0) = 0
        """);
    Script.holds("the first that is so: 1 ahead of 2, 2 ahead of 3", SMALL, BOOKS, """
        lend(0, 0) = 16
        ask(1, 0, 2)
        whyNot(1, 0) = 3
        lostDay(0, 2, 1, 1)
        whyNot(1, 0) = 2
        lost(0)
        whyNot(1, 0) = 1
        """);
    Script.holds("the first that is so: 3 ahead of 5, 5 ahead of 6", SMALL, BOOKS, """
        ask(1, 0, 2)
        ask(2, 0, 2)
        ask(2, 1, 2)
        ask(2, 3, 2)
        lend(0, 0) = 16
        shelf(0, 2)
        whyNot(1, 0) = 3
        whyNot(2, 0) = 3
        back(0, 0, 0) = NONE
        whyNot(2, 1) = 6
        ask(0, 1, 2)
        whyNot(2, 1) = 5
        """);
    Script.holds("the first that is so: 4 ahead of 5 and 6", SMALL, BOOKS, """
        ask(0, 2, 2)
        ask(1, 2, 2)
        shelf(0, 4)
        whyNot(0, 2) = 4
        whyNot(1, 2) = 4
        move(2, NONE)
        whyNot(1, 2) = 5
        """);
  }

  private static void ring() {
    Script.holds("26: 0: there is none", """
        ring(NONE) = 0
        ring(0) = NONE
        ring(-2) = NONE
        stop(1, 1, 1)
        reader(0, 0)
        ring(NONE) = 0
        ring(0) = NONE
        """);
    Script.holds("a RING: two or more READERS: two", SIXTEEN, """
        ask(3, 7, 0) = true
        ring(NONE) = 0
        ask(7, 3, 14) = true
        ring(NONE) = 2
        ring(0) = 3
        ring(1) = 7
        ring(2) = NONE
        ring(-2) = NONE
        ring(max) = NONE
        ring(min) = NONE
        """);
    Script.holds("a RING: all sixteen, backwards", SIXTEEN, """
        ask(0, 15, 14) = true
        ask(15, 14, 14)
        ask(14, 13, 14)
        ask(13, 12, 14)
        ask(12, 11, 14)
        ask(11, 10, 14)
        ask(10, 9, 14)
        ask(9, 8, 14)
        ask(8, 7, 14)
        ask(7, 6, 14)
        ask(6, 5, 14)
        ask(5, 4, 14)
        ask(4, 3, 14)
        ask(3, 2, 14)
        ask(2, 1, 14)
        ring(NONE) = 0
        ask(1, 0, 14)
        ring(NONE) = 16
        ring(0) = 0
        ring(1) = 15
        ring(15) = 1
        ring(16) = NONE
        """);
    Script.holds("a RING: of fewest READERS", SIXTEEN, """
        ask(0, 1, 14)
        ask(1, 2, 14)
        ask(2, 0, 14)
        ring(NONE) = 3
        ask(15, 14, 14)
        ask(14, 15, 14)
        ring(NONE) = 2
        ring(0) = 14
        ring(1) = 15
        """);
    Script.holds("told from its lowest READER on", SIXTEEN, """
        ask(9, 4, 14)
        ask(4, 6, 14)
        ask(6, 9, 14)
        ring(0) = 4
        ring(1) = 6
        ring(2) = 9
        """);
    Script.holds("of like ones the least row: by the first, then by the second", SIXTEEN, """
        ask(5, 9, 14)
        ask(9, 5, 14)
        ring(0) = 5
        ring(1) = 9
        ask(5, 8, 14)
        ask(8, 5, 14)
        ring(1) = 8
        ask(4, 15, 14)
        ask(15, 4, 14)
        ring(0) = 4
        ring(1) = 15
        """);
    Script.holds("of like ones the least row: by the last", SIXTEEN, """
        ask(1, 2, 14)
        ask(2, 9, 14)
        ask(9, 1, 14)
        ring(2) = 9
        ask(2, 7, 14)
        ask(7, 1, 14)
        ring(NONE) = 3
        ring(0) = 1
        ring(1) = 2
        ring(2) = 7
        """);
    Script.holds("a RING: who is asked but asks nobody is not of it, nor who asks but is not asked", SIXTEEN, """
        ask(0, 3, 14)
        ask(0, 5, 14)
        ask(5, 0, 14)
        ask(4, 0, 14)
        ring(NONE) = 2
        ring(0) = 0
        ring(1) = 5
        """);
    Script.holds("a RING: of READERS that ask for what a lower one has OUT", SIXTEEN, """
        ask(1, 0, 14)
        ask(2, 1, 14)
        ask(2, 3, 14)
        ask(3, 2, 14)
        ring(NONE) = 2
        ring(0) = 2
        ring(1) = 3
        """);
    Script.holds("a RING: of four, with a longer way from the last to the first", SIXTEEN, """
        ask(0, 1, 14)
        ask(1, 2, 14)
        ask(2, 3, 14)
        ask(3, 0, 14)
        ask(3, 4, 14)
        ask(4, 5, 14)
        ask(5, 0, 14)
        ring(NONE) = 4
        4 times ring(%) = %
        ring(4) = NONE
        """);
    Script.holds("a BOOK that the next one has OUT: not if it is back, not if it is LOST", SIXTEEN, """
        ask(3, 7, 14)
        ask(7, 3, 14)
        ring(NONE) = 2
        back(3, 0, 3)
        ring(NONE) = 0
        lend(3, 3)
        ring(NONE) = 2
        lost(7)
        ring(NONE) = 0
        """);
    Script.holds("a BOOK LENT to who asked for it ends the RING", SIXTEEN, """
        ask(3, 7, 14)
        ask(7, 3, 14)
        back(7, 0, 7)
        lend(7, 3)
        ring(NONE) = 0
        count(7) = 1
        """);
  }
}
