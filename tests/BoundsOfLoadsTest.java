/** The bounds that the document's part 3 and its promises 27 to 32 name: one script a sentence. */
public final class BoundsOfLoadsTest {
  /** One stop, visited by van 0 on days 0; all that is law is that tastes count. */
  private static final String STOP = """
      stop(1, 1, 1)
      visit(0, 0, 0)
      law wt(1=1) = 1
      """;

  /** Sixteen readers who have a taste of 5 for kind 0. */
  private static final String SIXTEEN = STOP + """
      16 times reader(0, 0)
      16 times taste(%, 0, 5)
      """;

  /** Stops 0 (10, 0) and 1 (0, 10) by van 0 on days 2, stop 2 (10, 10) by van 1 on days 3; readers 0, 1 of 0; 2 of 1; 3 of 2. */
  private static final String SMALL = """
      stop(10, 0, 20)
      stop(0, 10, 30)
      stop(10, 10, 40)
      visit(0, 0, 2)
      visit(1, 0, 2)
      visit(2, 1, 3)
      reader(0, 0)
      reader(0, 0)
      reader(1, 0)
      reader(2, 0)
      law wt(1=1) = 1
      """;

  public static void main(String[] args) {
    loadArguments();
    loadTwelve();
    loadKinds();
    loadBest();
    served();
    least();
    dull();
    onward();
    different();
    Script.end("bounds of loads");
  }

  private static void loadArguments() {
    Script.holds("27: -1: no such ones: the VAN", SIXTEEN, "book(0, 1, 0, 0)", """
        load(-1, 1, 0, 0) = -1
        load(3, 1, 0, 0) = -1
        load(min, 1, 0, 0) = -1
        load(0, 1, 0, 0) = 1
        load(2, 1, 0, 0) = 0
        """);
    Script.holds("27: by WANTS of so much (1 to 1000)", SIXTEEN, """
        book(0, 1, 0, 0)
        load(0, 0, 0, 0) = -1
        load(0, 1001, 0, 0) = -1
        load(0, min, 0, 0) = -1
        load(0, max, 0, 0) = -1
        load(0, 1, 0, 0) = 1
        load(0, 5, 0, 0) = 1
        load(0, 6, 0, 0) = 0
        law w999(1=1) = 1
        load(0, 1000, 0, 0) = 0
        law w1000(1=1) = 1
        load(0, 1000, 0, 0) = 1
        """);
    Script.holds("27: with KINDS that must be there (bits)", SIXTEEN, """
        book(0, 1, 0, 0)
        load(0, 1, -1, 0) = -1
        load(0, 1, 256, 0) = -1
        load(0, 1, min, 0) = -1
        load(0, 1, 0, 0) = 1
        load(0, 1, 255, 0) = 1
        """);
    Script.holds("27: what 0 the set, 1 how many it serves, 2 its LENGTH", SIXTEEN, """
        2 times book(0, 4, 0, 0)
        load(0, 1, 0, -1) = -1
        load(0, 1, 0, 3) = -1
        load(0, 1, 0, max) = -1
        load(0, 1, 0, 0) = 3
        load(0, 1, 0, 1) = 2
        load(0, 1, 0, 2) = 8
        """);
    Script.holds("READERS today: of STOPS that it VISITS NOW", SIXTEEN, """
        book(0, 1, 0, 0)
        load(0, 1, 0, 1) = 1
        load(1, 1, 0, 1) = 0
        now(1)
        load(0, 1, 0, 1) = 0
        load(0, 1, 255, 0) = 0
        load(0, 1, 255, 2) = 0
        now(14)
        load(0, 1, 0, 1) = 1
        lostDay(0, 14, 1, 1000) = 1
        load(0, 1, 0, 1) = 0
        now(15)
        load(0, 1, 0, 1) = 1
        """);
    Script.holds("no BOOKS, no READERS: the empty set fits", """
        load(0, 1, 255, 0) = 0
        load(0, 1, 255, 1) = 0
        load(0, 1, 255, 2) = 0
        stop(1, 1, 1)
        visit(0, 0, 0)
        book(0, 1, 0, 0)
        load(0, 1, 255, 0) = 0
        """);
  }

  private static void loadTwelve() {
    Script.holds("the first 12 by numbers: 12 and 13", SIXTEEN, """
        12 times book(0, 1, 0, 0)
        load(0, 1, 0, 0) = 4095
        load(0, 1, 0, 1) = 12
        book(0, 1, 0, 0)
        load(0, 1, 0, 0) = 4095
        load(0, 1, 0, 1) = 12
        load(0, 1, 0, 2) = 12
        """);
    Script.holds("the first 12 that somebody WANTS: others do not count among them", SIXTEEN, """
        3 times book(7, 1, 0, 0)
        13 times book(0, 1, 0, 0)
        load(0, 1, 0, 0) = 32760
        load(0, 1, 0, 1) = 12
        taste(15, 7, 1)
        load(0, 2, 0, 0) = 32760
        # now 0 to 11: nine for the others, the first of kind 7 for reader 15
        load(0, 1, 0, 0) = 4089
        load(0, 1, 0, 1) = 10
        """);
    Script.holds("of BOOKS in THE STORE or on it: others do not count among the 12", SIXTEEN, """
        14 times book(0, 1, 0, 0)
        move(0, 1) = true
        move(1, 0) = true
        move(2, 0) = true
        lend(2, 15) = 14
        load(0, 1, 0, 0) = 16378
        """);
    Script.holds("the first 12: the last BOOKS, up to bit 31", SIXTEEN, """
        20 times book(7, 1, 0, 0)
        12 times book(0, 1, 0, 0)
        load(0, 1, 0, 0) = 4293918720
        load(0, 1, 0, 1) = 12
        """);
    Script.holds("or that are ON BOARD, though nobody WANTS them", SIXTEEN, """
        book(7, 3, 0, 0)
        book(0, 2, 0, 0)
        load(0, 1, 0, 0) = 2
        ask(4, 0, 0) = true
        load(0, 1, 0, 0) = 3
        load(0, 1, 0, 1) = 1
        load(0, 1, 0, 2) = 5
        """);
    Script.holds("ON BOARD: of this DAY alone", SIXTEEN, """
        book(7, 3, 0, 0)
        ask(4, 0, 14) = true
        load(0, 1, 0, 0) = 0
        now(14)
        load(0, 1, 0, 0) = 1
        now(15)
        load(0, 1, 0, 0) = 0
        """);
    Script.holds("with all of these 12 that are ON BOARD: the 12th must, the 13th need not", SIXTEEN, """
        13 times book(0, 1, 0, 0)
        shelf(0, 1)
        load(0, 1, 0, 0) = 1
        ask(0, 12, 0) = true
        load(0, 1, 0, 0) = 1
        ask(0, 11, 0) = true
        load(0, 1, 0, 0) = 2048
        ask(0, 10, 0) = true
        load(0, 1, 0, 0) = -2
        """);
    Script.holds("ON BOARD, but OUT or on another VAN: not of the 12", SIXTEEN, """
        3 times book(0, 1, 0, 0)
        ask(0, 0, 0)
        ask(0, 1, 0)
        move(0, 1)
        move(1, 0)
        lend(1, 2)
        shelf(0, 0)
        load(0, 1, 0, 0) = 0
        shelf(0, 1)
        load(0, 1, 0, 0) = 4
        """);
  }

  private static void loadKinds() {
    Script.holds("one at least of each KIND that must be there: KIND 0 and KIND 7", STOP, """
        reader(0, 0)
        taste(0, 0, 5)
        taste(0, 7, 5)
        book(0, 2, 0, 0)
        book(7, 3, 0, 0)
        load(0, 1, 0, 0) = 1
        load(0, 1, 1, 0) = 1
        load(0, 1, 128, 0) = 2
        load(0, 1, 129, 0) = 3
        load(0, 1, 255, 2) = 5
        """);
    Script.holds("(if one of these 12 is of it): of none", SIXTEEN, """
        book(0, 1, 0, 0)
        book(1, 1, 0, 0)
        load(0, 1, 2, 0) = 1
        taste(3, 1, 1)
        load(0, 2, 2, 0) = 1
        load(0, 1, 2, 0) = 3
        """);
    Script.holds("(if one of these 12 is of it): of the 12th, of the 13th", SIXTEEN, """
        taste(3, 1, 5)
        taste(3, 2, 5)
        11 times book(0, 1, 0, 0)
        book(1, 1, 0, 0)
        book(2, 1, 0, 0)
        shelf(0, 1)
        load(0, 1, 0, 0) = 1
        load(0, 1, 2, 0) = 2048
        load(0, 1, 4, 0) = 1
        load(0, 1, 6, 0) = 2048
        load(0, 1, 7, 0) = -2
        """);
    Script.holds("one at least: a BOOK that is ON BOARD is one of its KIND", SIXTEEN, """
        book(0, 3, 0, 0)
        book(0, 1, 0, 0)
        shelf(0, 3)
        ask(0, 0, 0)
        load(0, 1, 1, 0) = 1
        """);
    Script.holds("27: -2: none fits: the KINDS are just too long together", STOP, """
        reader(0, 0)
        taste(0, 0, 5)
        taste(0, 1, 5)
        book(0, 4, 0, 0)
        book(1, 5, 0, 0)
        shelf(0, 9)
        load(0, 1, 3, 0) = 3
        load(0, 1, 3, 1) = 1
        shelf(0, 8)
        load(0, 1, 3, 0) = -2
        load(0, 1, 3, 1) = -2
        load(0, 1, 3, 2) = -2
        load(0, 1, 0, 0) = 1
        """);
  }

  private static void loadBest() {
    Script.holds("LENGTHS within its SHELF: just within, and one above", SIXTEEN, """
        book(0, 9, 0, 0)
        book(0, 8, 0, 0)
        book(0, 7, 0, 0)
        shelf(0, 24)
        load(0, 1, 0, 0) = 7
        shelf(0, 23)
        load(0, 1, 0, 0) = 6
        load(0, 1, 0, 2) = 15
        shelf(0, 15)
        load(0, 1, 0, 0) = 6
        shelf(0, 14)
        load(0, 1, 0, 0) = 4
        shelf(0, 6)
        load(0, 1, 0, 0) = 0
        """);
    Script.holds("a SHELF of 0, with nothing and with something ON BOARD", SIXTEEN, """
        book(0, 1, 0, 0)
        shelf(0, 0)
        load(0, 1, 0, 0) = 0
        load(0, 1, 0, 1) = 0
        ask(0, 0, 0)
        load(0, 1, 0, 0) = -2
        """);
    Script.holds("each gets one BOOK, each BOOK one READER", STOP, """
        2 times reader(0, 0)
        2 times taste(%, 0, 5)
        3 times book(0, 1, 0, 0)
        load(0, 1, 0, 1) = 2
        load(0, 1, 0, 0) = 3
        taste(1, 0, 0)
        load(0, 1, 0, 1) = 1
        """);
    Script.holds("that serves most READERS: who takes another BOOK for it", STOP, """
        3 times reader(0, 0)
        taste(0, 0, 5)
        taste(0, 1, 5)
        taste(1, 0, 5)
        taste(2, 1, 5)
        taste(2, 2, 5)
        3 times book(%, 1, 0, 0)
        load(0, 1, 0, 1) = 3
        shelf(0, 2)
        load(0, 1, 0, 1) = 2
        load(0, 1, 0, 0) = 3
        """);
    Script.holds("of like ones of least LENGTH together", STOP, """
        reader(0, 0)
        taste(0, 0, 5)
        book(0, 3, 0, 0)
        book(0, 2, 0, 0)
        book(0, 3, 0, 0)
        load(0, 1, 0, 0) = 2
        load(0, 1, 0, 2) = 2
        """);
    Script.holds("then the least set", STOP, """
        2 times reader(0, 0)
        2 times taste(%, 0, 5)
        book(0, 2, 0, 0)
        book(0, 3, 0, 0)
        book(0, 3, 0, 0)
        book(0, 2, 0, 0)
        book(0, 2, 0, 0)
        load(0, 1, 0, 0) = 9
        """);
    Script.holds("then the least set: 1 and 2 ahead of 0 and 3", STOP, """
        2 times reader(0, 0)
        2 times taste(%, 0, 5)
        book(0, 2, 0, 0)
        book(0, 3, 0, 0)
        book(0, 1, 0, 0)
        book(0, 2, 0, 0)
        load(0, 1, 0, 2) = 3
        load(0, 1, 0, 0) = 5
        """);
    Script.holds("what they have HAD, or of another FORM, serves nobody", STOP, """
        reader(0, 1)
        reader(0, 0)
        2 times taste(%, 0, 5)
        book(0, 1, 0, 0)
        book(0, 2, 1, 0)
        load(0, 1, 0, 0) = 3
        had(1, 0)
        load(0, 1, 0, 0) = 2
        had(0, 1)
        load(0, 1, 0, 0) = 2
        had(1, 1)
        load(0, 1, 0, 0) = 0
        """);
  }

  private static void served() {
    Script.holds("28: a set of BOOKS (bits 0 to 31)", SIXTEEN, """
        32 times book(0, 1, 0, 0)
        served(0, 0, 1) = 0
        served(0, 1, 1) = 1
        served(0, 2147483648, 1) = 1
        served(0, 2147483649, 1) = 2
        served(0, 4294967295, 1) = 16
        served(0, 4294967296, 1) = NONE
        served(0, -1, 1) = NONE
        served(0, -9223372036854775808, 1) = NONE
        served(0, 9223372036854775807, 1) = NONE
        """);
    Script.holds("28: no such ones: BOOKS that are not there", SIXTEEN, """
        served(0, 0, 1) = 0
        served(0, 1, 1) = NONE
        31 times book(0, 1, 0, 0)
        served(0, 2147483647, 1) = 16
        served(0, 2147483648, 1) = NONE
        """);
    Script.holds("28: no such ones: the VAN, so much", SIXTEEN, """
        book(0, 1, 0, 0)
        served(-1, 1, 1) = NONE
        served(3, 1, 1) = NONE
        served(0, 1, 0) = NONE
        served(0, 1, 1001) = NONE
        served(0, 1, min) = NONE
        served(2, 1, 1000) = 0
        served(0, 1, 5) = 1
        served(0, 1, 6) = 0
        """);
    Script.holds("SERVED: most READERS of a VAN's STOPS NOW", SMALL, """
        4 times taste(%, 0, 5)
        4 times book(0, 1, 0, 0)
        served(0, 15, 1) = 0
        now(2)
        served(0, 15, 1) = 3
        served(1, 15, 1) = 0
        now(3)
        served(0, 15, 1) = 0
        served(1, 15, 1) = 1
        """);
    Script.holds("SERVED by a set: wherever the BOOKS are", SIXTEEN, """
        4 times book(0, 1, 0, 0)
        move(0, 1)
        move(1, 0)
        lend(1, 0)
        move(2, 0)
        lend(2, 0)
        lost(2)
        served(0, 15, 1) = 4
        """);
    Script.holds("SERVED: all change for the last one", STOP, """
        16 times reader(0, 0)
        8 times book(%, 1, 0, 0)
        8 times taste(%, %, 5)
        taste(0, 1, 5)
        taste(1, 2, 5)
        taste(2, 3, 5)
        taste(3, 4, 5)
        taste(4, 5, 5)
        taste(5, 6, 5)
        taste(6, 7, 5)
        served(0, 255, 1) = 8
        taste(8, 0, 5)
        served(0, 255, 1) = 8
        book(7, 1, 0, 0)
        served(0, 511, 1) = 9
        """);
  }

  private static void least() {
    Script.holds("29: NONE: there is none, no such what", SMALL, """
        least(0) = NONE
        least(1) = NONE
        least(2) = NONE
        now(2)
        least(-1) = NONE
        least(3) = NONE
        least(min) = NONE
        least(0) = 0
        least(1) = 0
        least(2) = 1
        """);
    Script.holds("LEAST SERVED: VISITS up to NOW; without one: aside", SMALL, """
        now(1)
        least(0) = NONE
        now(2)
        least(0) = 0
        visit(0, NONE, 0)
        least(0) = 2
        visit(1, NONE, 0)
        least(0) = NONE
        now(3)
        least(0) = 3
        """);
    Script.holds("LEAST SERVED: the fraction is least", SMALL, """
        4 times book(0, 1, 0, 0)
        3 times move(%, 0)
        now(2)
        lend(0, 0)
        least(0) = 1
        lend(1, 1)
        least(0) = 2
        lend(2, 2)
        least(0) = 0
        least(1) = 1
        now(3)
        least(0) = 3
        """);
    Script.holds("LEAST SERVED: 1 of 3 is less than 1 of 2, like 2 of 6", """
        3 times stop(1, 1, 1)
        visit(0, 0, 0)
        visit(1, 0, 1)
        visit(2, 0, 2)
        3 times reader(%, 0)
        3 times book(0, 1, 0, 0)
        3 times move(%, 0)
        lend(0, 0)
        now(1)
        lend(1, 1)
        now(2)
        lend(2, 2)
        least(0) = 0
        now(14)
        least(0) = 0
        least(2) = 2
        now(16)
        least(0) = 0
        visit(0, 0, 13)
        # stop 0 has now one visit, on day 13
        least(0) = 1
        """);
    Script.holds("LEAST SERVED: of like ones the lowest, though their numbers differ", """
        2 times stop(1, 1, 1)
        visit(0, 0, 0)
        visit(1, 1, 1)
        2 times reader(%, 0)
        4 times book(0, 1, 0, 0)
        2 times move(%, 0)
        move(2, 1)
        2 times lend(%, 0)
        now(1)
        lend(2, 1)
        least(0) = 1
        now(14)
        # 2 of 2 and 1 of 1
        least(0) = 0
        least(1) = 2
        least(2) = 2
        """);
    Script.holds("LEAST SERVED: a LOST DAY is no VISIT, one that was PUT is", """
        stop(1, 1, 1)
        visit(0, 0, 0)
        reader(0, 0)
        lostDay(0, 0, 1, 1000) = 1
        least(0) = NONE
        now(1)
        least(2) = 1
        now(14)
        least(2) = 2
        """);
  }

  private static void dull() {
    Script.holds("30: -1: no such ones", SMALL, """
        book(0, 1, 0, 0)
        move(0, 0)
        dull(-1, 1) = -1
        dull(3, 1) = -1
        dull(0, 0) = -1
        dull(0, 1001) = -1
        dull(0, max) = -1
        dull(0, 1) = 1
        dull(2, 1000) = 0
        """);
    Script.holds("DULL: that no READER WANTS by so much or more", SMALL, """
        book(0, 1, 0, 0)
        move(0, 0)
        taste(2, 0, 5)
        dull(0, 5) = 0
        dull(0, 6) = 1
        law w1000(1=1) = 1
        dull(0, 1000) = 0
        law w999(1=1) = 1
        dull(0, 1000) = 1
        """);
    Script.holds("DULL: as bits: BOOKS 0 and 31", """
        32 times book(0, 1, 0, 0)
        move(0, 0)
        move(31, 0)
        move(5, 1)
        dull(0, 1) = 2147483649
        dull(1, 1) = 32
        dull(2, 1) = 0
        """);
    Script.holds("of its STOPS (of all VISITS told): on any DAY, not of one that was PUT", SMALL, """
        book(0, 1, 0, 0)
        move(0, 0)
        taste(3, 0, 5)
        dull(0, 1) = 1
        lostDay(1, 3, 1, 1000) = 1
        put(2, 1) = 0
        dull(0, 1) = 1
        visit(2, 0, 13)
        dull(0, 1) = 0
        lostDay(0, 13, 1, 1)
        dull(0, 1) = 0
        visit(2, NONE, 0)
        dull(0, 1) = 1
        """);
    Script.holds("of its STOPS: a STOP without a VISIT is of no VAN", """
        stop(1, 1, 1)
        reader(0, 0)
        book(0, 1, 0, 0)
        law w5(1=1) = 1
        move(0, 0)
        dull(0, 1) = 1
        onward(0, 1) = -2
        visit(0, 0, 0)
        dull(0, 1) = 0
        onward(0, 1) = 0
        visit(0, NONE, 0)
        dull(0, 1) = 1
        onward(0, 1) = -2
        """);
  }

  private static void onward() {
    Script.holds("31: NONE: no such ones", SMALL, """
        onward(0, 1) = NONE
        book(0, 1, 0, 0)
        onward(-1, 1) = NONE
        onward(1, 1) = NONE
        onward(0, 0) = NONE
        onward(0, 1001) = NONE
        onward(0, 1000) = -2
        """);
    Script.holds("31: -2: nobody WANTS it so (above 0)", SMALL, """
        book(0, 1, 0, 0)
        onward(0, 1) = -2
        taste(3, 0, 5)
        onward(0, 6) = -2
        onward(0, 5) = 1
        had(3, 0)
        onward(0, 5) = -2
        """);
    Script.holds("MOVED ON: the one with most such READERS; of like ones the lowest", SMALL, """
        book(0, 1, 0, 0)
        taste(3, 0, 5)
        taste(2, 0, 5)
        onward(0, 1) = 0
        visit(1, 2, 0)
        onward(0, 1) = 1
        taste(0, 0, 5)
        onward(0, 1) = 0
        visit(0, 2, 0)
        onward(0, 1) = 2
        """);
    Script.holds("MOVED ON: of a BOOK that is LOST or OUT, too", SMALL, """
        book(0, 1, 0, 0)
        taste(3, 0, 5)
        move(0, 0)
        now(2)
        lend(0, 0)
        onward(0, 1) = 1
        lost(0)
        onward(0, 1) = 1
        """);
  }

  private static void different() {
    Script.holds("32: NONE: no such ones", SMALL, """
        different(-1, 0) = NONE
        different(3, 0) = NONE
        different(0, -1) = NONE
        different(0, 200) = NONE
        different(0, min) = NONE
        different(0, 0) = 0
        """);
    Script.holds("32: NONE: no VISIT in it", SMALL, """
        stop(1, 1, 1)
        different(3, 0) = NONE
        visit(0, NONE, 0)
        different(0, 0) = NONE
        """);
    Script.holds("in a fortnight from a DAY on: 14 DAYS, the first and the last", """
        stop(1, 1, 1)
        visit(0, 0, 5)
        2 times book(0, 1, 0, 0)
        2 times move(%, %)
        lostDay(0, 19, 1, 1000) = 1
        visits(0, 0, 20) = 1
        visit(0, NONE, 0)
        # there is just one visit, on day 20
        different(0, 20) = 1
        different(0, 21) = NONE
        different(0, 7) = 1
        different(0, 6) = NONE
        """);
    Script.holds("up to 199", SMALL, """
        book(0, 1, 0, 0)
        move(0, 0)
        different(0, 198) = 1
        different(0, 199) = NONE
        different(2, 199) = 0
        different(1, 186) = 1
        """);
    Script.holds("BOOKS that are NOW on VANS that VISIT it then: not in THE STORE, not on others, not OUT", SMALL, """
        5 times book(0, 1, 0, 0)
        move(0, 0)
        move(1, 1)
        move(2, 0)
        now(2)
        lend(2, 3) = NONE
        lend(2, 2) = 16
        different(0, 0) = 1
        different(0, 3) = 1
        different(2, 3) = 1
        """);
    Script.holds("how many nobody there has HAD: READERS of that STOP alone", SMALL, """
        2 times book(0, 1, 0, 0)
        2 times move(%, 0)
        different(0, 0) = 2
        had(2, 0)
        different(0, 0) = 2
        different(1, 0) = 1
        had(1, 0)
        different(0, 0) = 1
        had(0, 0)
        different(0, 0) = 1
        had(0, 1)
        different(0, 0) = 0
        """);
    Script.holds("a fortnight with a LOST DAY, and one that was PUT", SMALL, """
        2 times book(0, 1, 0, 0)
        2 times move(%, %)
        lostDay(0, 2, 1, 1000) = 2
        put(0, 1) = 1
        # on day 3 by van 1
        different(0, 0) = 1
        different(0, 3) = 2
        different(0, 4) = 1
        """);
  }
}
