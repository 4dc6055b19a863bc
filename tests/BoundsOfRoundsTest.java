/** The bounds that the document's part 4 and its promises 33 to 43 name: one script a sentence. */
public final class BoundsOfRoundsTest {
  /** Stops 0 (10, 0) and 1 (0, 10) by van 0 on days 2, stop 2 (10, 10) by van 1 on days 3; readers 0, 1 of 0; 2 of 1; 3 of 2. */
  private static final String SMALL = """
      stop(10, 0, 20)
      stop(0, 10, 30)
      stop(10, 10, 40)
      visit(0, 0, 2)
      visit(1, 0, 2)
      visit(2, 1, 3)
      reader(0, 0)
      reader(0, 0)
      reader(1, 0)
      reader(2, 0)
      """;

  /** Ten stops at (0, 0) .. (9, 0), each with a halt of 1; none is visited. */
  private static final String TEN = "10 times stop(%, 0, 1)\n";

  /** Ten stops off the depot at (0, 5) .. (9, 5), each with a halt of 1; none is visited. */
  private static final String ROW = "10 times stop(%, 5, 1)\n";

  public static void main(String[] args) {
    pace();
    round();
    went();
    lostDay();
    lostDayBounds();
    lostDayChoice();
    crowded();
    put();
    known();
    where();
    counts();
    council();
    check();
    count();
    Script.end("bounds of rounds");
  }

  private static void pace() {
    Script.holds("so many minutes (1 to 9; 2 at first); 33: false: no such number", SMALL, """
        round(0, 2, 8) = 130
        pace(0) = false
        pace(-1) = false
        pace(10) = false
        pace(min) = false
        pace(max) = false
        round(0, 2, 8) = 130
        pace(1) = true
        round(0, 2, 8) = 90
        pace(9) = true
        round(0, 2, 8) = 410
        pace(10) = false
        round(0, 2, 8) = 410
        """);
  }

  private static void round() {
    Script.holds("34: NONE: no such ones, no such place", SMALL, """
        round(-1, 2, NONE) = NONE
        round(3, 2, NONE) = NONE
        round(0, -1, NONE) = NONE
        round(0, 200, NONE) = NONE
        round(0, 2, -2) = NONE
        round(0, 2, 9) = NONE
        round(0, 2, min) = NONE
        round(0, 2, max) = NONE
        round(0, 2, 2) = NONE
        round(0, 2, 7) = NONE
        round(0, 2, 1) = 1
        round(2, 0, NONE) = 0
        round(1, 199, NONE) = 40
        """);
    Script.holds("a ROUND without STOPS", """
        round(0, 0, NONE) = 0
        round(0, 0, 8) = 0
        8 times round(0, 0, %) = NONE
        """);
    Script.holds("a ROUND of one STOP; of one at the depot", """
        stop(0, 0, 200)
        stop(99, 99, 1)
        visit(0, 0, 0)
        visit(1, 1, 0)
        round(0, 0, NONE) = 0
        round(0, 0, 8) = 200
        round(0, 0, 0) = 0
        round(0, 0, 1) = NONE
        round(1, 0, NONE) = 396
        round(1, 0, 8) = 793
        round(1, 0, 0) = 1
        """);
    Script.holds("(8 at most, else none is told): 8 and 9", TEN, """
        8 times visit(%, 2, 7)
        round(2, 7, NONE) = 14
        round(2, 7, 8) = 36
        8 times round(2, 7, %) = %
        visit(8, 2, 7)
        round(2, 7, NONE) = -2
        round(2, 7, 8) = -2
        8 times round(2, 7, %) = -2
        round(2, 7, 9) = NONE
        round(2, 7, -2) = NONE
        visit(9, 2, 7)
        round(2, 7, NONE) = -2
        visit(0, NONE, 0)
        visit(1, NONE, 0)
        round(2, 7, NONE) = 18
        round(2, 7, 0) = 2
        round(2, 7, 7) = 9
        """);
    Script.holds("of like ones the least row of STOPS: there or back", """
        stop(5, 0, 1)
        stop(3, 0, 1)
        stop(9, 0, 1)
        3 times visit(%, 0, 0)
        round(0, 0, NONE) = 18
        round(0, 0, 0) = 0
        round(0, 0, 1) = 2
        round(0, 0, 2) = 1
        """);
    Script.holds("of like ones the least row of STOPS: all at one place", """
        8 times stop(4, 4, 1)
        8 times visit(%, 0, 0)
        round(0, 0, NONE) = 16
        8 times round(0, 0, %) = %
        """);
    Script.holds("THE BEST is a shortest one, not the one by numbers", """
        stop(0, 9, 1)
        stop(9, 0, 1)
        stop(1, 9, 1)
        stop(9, 1, 1)
        4 times visit(%, 0, 0)
        # 9, 1, 16, 1, 9
        round(0, 0, NONE) = 36
        round(0, 0, 0) = 0
        round(0, 0, 1) = 2
        round(0, 0, 2) = 3
        round(0, 0, 3) = 1
        """);
    Script.holds("a ROUND by VISITS of that DAY: LOST, PUT", SMALL, """
        lostDay(0, 2, 1, 1000) = 2
        round(0, 2, NONE) = 0
        round(0, 2, 0) = NONE
        round(1, 3, NONE) = 40
        round(1, 3, 0) = 0
        round(1, 3, 1) = 2
        round(1, 3, 2) = 1
        round(1, 3, 8) = 170
        round(1, 17, NONE) = 40
        round(1, 17, 1) = NONE
        """);
  }

  private static void went() {
    Script.holds("35: what 0 miles saved, 1 READERS, 2 LOANS. NONE for others", SMALL, """
        went(-1, 0) = NONE
        went(3, 0) = NONE
        went(0, -1) = NONE
        went(0, 3) = NONE
        went(0, max) = NONE
        went(0, 0) = 20
        went(0, 1) = 2
        went(0, 2) = 0
        """);
    Script.holds("0 without a VISIT", SMALL, """
        visit(2, NONE, 0)
        went(2, 0) = 0
        went(2, 1) = 1
        visit(0, NONE, 0)
        went(0, 0) = 0
        stop(50, 50, 1)
        went(3, 0) = 0
        """);
    Script.holds("the ROUND with and without it: the only STOP, one of two, one on the way", SMALL, """
        went(2, 0) = 40
        went(1, 0) = 20
        visit(2, 0, 2)
        went(0, 0) = 0
        went(1, 0) = 0
        went(2, 0) = 0
        """);
    Script.holds("by VISITS as told alone: not those that were PUT, whatever is LOST", SMALL, """
        now(2)
        lostDay(0, 2, 1, 1000) = 2
        lostDay(0, 16, 14, 1000) = 2
        went(0, 0) = 20
        went(2, 0) = 40
        """);
    Script.holds("35: -2: a ROUND is not told: of 9, not of 8", TEN, """
        8 times visit(%, 1, 0)
        went(7, 0) = 2
        went(0, 0) = 0
        visit(8, 1, 0)
        went(7, 0) = -2
        went(0, 0) = -2
        went(0, 1) = 0
        went(0, 2) = 0
        went(9, 0) = 0
        visit(9, 2, 0)
        went(9, 0) = 18
        """);
    Script.holds("LOANS there: of its READERS, by any VAN", SMALL, """
        2 times book(0, 1, 0, 0)
        move(0, 0)
        move(1, 1)
        now(2)
        lend(0, 2)
        visit(1, 1, 3)
        now(3)
        lend(1, 2)
        went(1, 2) = 2
        went(0, 2) = 0
        """);
  }

  private static void lostDay() {
    Script.holds("36: NONE: no such ones: the VAN", SMALL, """
        lostDay(-1, 2, 1, 1) = NONE
        lostDay(3, 2, 1, 1) = NONE
        lostDay(min, 2, 1, 1) = NONE
        count(8) = 0
        lostDay(2, 2, 1, 1) = 0
        count(8) = 1
        """);
    Script.holds("36: a LOST DAY (NOW to 199)", SMALL, """
        now(10)
        lostDay(0, 9, 1, 1) = NONE
        lostDay(0, -1, 1, 1) = NONE
        lostDay(0, 200, 1, 1) = NONE
        lostDay(0, max, 1, 1) = NONE
        count(8) = 0
        lostDay(0, 10, 1, 1) = 0
        lostDay(0, 199, 1, 1) = 0
        count(8) = 2
        """);
    Script.holds("36: of the n DAYS behind it (1 to 28)", SMALL, """
        lostDay(0, 2, 0, 1000) = NONE
        lostDay(0, 2, 29, 1000) = NONE
        lostDay(0, 2, -1, 1000) = NONE
        lostDay(0, 2, min, 1000) = NONE
        visits(0, 0, 2) = 1
        lostDay(0, 2, 1, 1000) = 2
        lostDay(1, 3, 28, 1000) = 3
        """);
    Script.holds("36: a bound (1 to 1000)", SMALL, """
        lostDay(0, 2, 1, 0) = NONE
        lostDay(0, 2, 1, 1001) = NONE
        lostDay(0, 2, 1, -1) = NONE
        count(8) = 0
        lostDay(0, 2, 1, 1) = 0
        lostDay(0, 16, 1, 1000) = 2
        """);
    Script.holds("36: NONE: it is LOST", SMALL, """
        lostDay(0, 2, 1, 1000) = 2
        lostDay(0, 2, 2, 900) = NONE
        count(8) = 1
        put(0, 0) = 3
        lostDay(1, 2, 1, 1000) = 0
        lostDay(0, 1, 1, 1000) = 0
        count(8) = 3
        """);
    Script.holds("36: (STOPS that were PUT there before, too.)", SMALL, """
        lostDay(0, 2, 1, 1000) = 2
        put(0, 1) = 1
        lostDay(1, 3, 1, 1000) = 3
        put(0, 0) = 4
        put(1, 0) = 4
        put(2, 0) = 4
        visits(1, 0, 3) = 0
        """);
    Script.holds("LOST DAYS: all 200 of a VAN", """
        stop(1, 1, 1)
        visit(0, 1, 5)
        200 times lostDay(0, %, 1, 1000) = 0
        count(8) = 200
        lostDay(0, 199, 1, 1000) = NONE
        lostDay(1, 5, 3, 1000) = 1
        put(0, 0) = 6
        put(0, 1) = 1
        """);
  }

  private static void lostDayBounds() {
    Script.holds("the n DAYS behind it: the first, the last, and the one behind that", """
        stop(1, 1, 1)
        visit(0, 0, 5)
        lostDay(1, 6, 1, 1)
        lostDay(2, 6, 1, 1)
        lostDay(0, 6, 1, 1)
        lostDay(0, 5, 1, 1000) = 0
        put(0, 0) = NONE
        lostDay(0, 19, 1, 1000) = 1
        put(0, 0) = 20
        """);
    Script.holds("the n DAYS behind it: a fortnight on, by 13 and by 14", SMALL, """
        lostDay(0, 2, 13, 1) = 0
        lostDay(0, 16, 14, 1) = 2
        put(0, 0) = 30
        put(1, 0) = 30
        """);
    Script.holds("the n DAYS behind it: 28, and not the 29th", """
        stop(50, 50, 200)
        visit(0, 0, 5)
        lostDay(0, 19, 1, 1) = 0
        lostDay(0, 33, 1, 1) = 0
        lostDay(0, 5, 27, 1) = 0
        lostDay(0, 61, 1, 1) = 0
        lostDay(0, 47, 28, 1) = 1
        put(0, 0) = 75
        visit(0, 0, 6)
        lostDay(0, 104, 1, 1) = 0
        lostDay(0, 118, 1, 1) = 0
        lostDay(0, 90, 28, 1) = 0
        """);
    Script.holds("(1 to 28; up to 199): the last DAY, and none behind it", SMALL, """
        lostDay(0, 198, 28, 1000) = 2
        put(0, 0) = 199
        put(1, 0) = 199
        lostDay(1, 199, 28, 1000) = 0
        3 times put(%, 0) = NONE
        3 times put(%, 1) = NONE
        """);
    Script.holds("its MINUTES with it must not be above a bound: just so, and one below", """
        stop(10, 0, 20)
        visit(0, 0, 5)
        lostDay(0, 5, 1, 59) = 0
        put(0, 0) = NONE
        lostDay(0, 19, 1, 60) = 1
        put(0, 0) = 20
        """);
    Script.holds("its MINUTES with it: of all its STOPS, at the pace of NOW", """
        stop(10, 0, 20)
        stop(10, 0, 30)
        visit(0, 0, 5)
        visit(1, 0, 6)
        # 20 miles at 3 minutes, 20 and 30
        pace(3)
        lostDay(1, 6, 1, 1)
        lostDay(2, 6, 1, 1)
        lostDay(0, 5, 1, 109) = 0
        lostDay(1, 20, 1, 1)
        lostDay(2, 20, 1, 1)
        lostDay(0, 19, 1, 110) = 1
        put(0, 0) = 20
        """);
    Script.holds("(Where that VAN VISITS it anyway it grows by 0.): whatever the bound", SMALL, """
        lostDay(0, 2, 14, 1) = 2
        put(0, 0) = 16
        put(0, 1) = 0
        put(1, 0) = 16
        """);
    Script.holds("(Where that VAN VISITS it anyway it grows by 0.): like where it is on the way, of these the lowest VAN", """
        stop(10, 0, 20)
        stop(20, 0, 20)
        visit(0, 0, 2)
        visit(1, 1, 2)
        lostDay(0, 2, 14, 1000) = 1
        put(0, 0) = 16
        put(0, 1) = 0
        visit(0, 2, 2)
        lostDay(2, 30, 14, 1000) = 1
        put(0, 0) = 44
        put(0, 1) = 1
        """);
    Script.holds("a VAN that is not LOST then", SMALL, """
        lostDay(1, 3, 1, 1)
        lostDay(0, 3, 1, 1)
        lostDay(0, 2, 1, 1000) = 2
        put(0, 0) = 3
        put(0, 1) = 2
        put(1, 1) = 2
        lostDay(0, 17, 1, 1)
        lostDay(1, 17, 1, 1)
        lostDay(2, 17, 1, 1)
        lostDay(0, 16, 1, 1000) = 0
        put(0, 0) = NONE
        put(1, 1) = NONE
        """);
  }

  private static void lostDayChoice() {
    Script.holds("to that by which the ROUND's miles grow least", SMALL, """
        # with stop 2 on day 3 stop 0 costs nothing, alone it costs 20
        lostDay(0, 2, 5, 1000) = 2
        put(0, 0) = 3
        put(0, 1) = 1
        put(1, 0) = 3
        put(1, 1) = 1
        """);
    Script.holds("of like ones the first DAY", """
        stop(5, 5, 1)
        visit(0, 1, 5)
        lostDay(1, 5, 9, 1000) = 1
        put(0, 0) = 6
        put(0, 1) = 0
        """);
    Script.holds("of like ones the first DAY, then the lowest VAN", """
        stop(5, 5, 1)
        visit(0, 0, 5)
        lostDay(0, 6, 1, 1)
        lostDay(0, 5, 9, 1000) = 1
        put(0, 0) = 6
        put(0, 1) = 1
        """);
    Script.holds("a later DAY by which they grow less", """
        stop(5, 5, 1)
        stop(5, 6, 1)
        visit(0, 1, 5)
        visit(1, 2, 9)
        lostDay(1, 5, 3, 1000) = 1
        put(0, 0) = 6
        lostDay(1, 19, 4, 1000) = 1
        put(0, 0) = 23
        put(0, 1) = 2
        """);
    Script.holds("PUT, by numbers: those put before count for the next", """
        3 times stop(20, 20, 50)
        3 times visit(%, 0, 5)
        # 80 miles are 160 minutes, each halt 50: two go together, the third to the next van
        lostDay(0, 5, 1, 260) = 3
        put(0, 1) = 0
        put(1, 1) = 0
        put(2, 1) = 1
        """);
    Script.holds("Who finds none is not PUT; those behind it still are", """
        stop(50, 50, 1)
        stop(1, 1, 1)
        2 times visit(%, 0, 5)
        lostDay(0, 5, 1, 100) = 1
        put(0, 0) = NONE
        put(1, 0) = 6
        visits(0, 0, 6) = 0
        visits(0, 1, 6) = 1
        """);
  }

  private static void crowded() {
    Script.holds("Else the VAN must have fewer than 8 STOPS then: 7 and 8", ROW, """
        7 times visit(%, 0, 6)
        visit(8, 1, 5)
        visit(9, 2, 5)
        lostDay(1, 5, 1, 1000) = 1
        put(8, 0) = 6
        put(8, 1) = 0
        lostDay(2, 5, 1, 1000) = 1
        put(9, 0) = 6
        put(9, 1) = 1
        round(0, 6, NONE) = 26
        """);
    Script.holds("where that VAN VISITS it anyway: one of 8", ROW, """
        8 times visit(%, 0, 5)
        lostDay(0, 5, 14, 1) = 8
        put(0, 0) = 19
        put(7, 0) = 19
        """);
    Script.holds("(Where a VAN has more than 8 STOPS none is PUT.)", ROW, """
        9 times visit(%, 0, 5)
        lostDay(0, 5, 14, 1) = 0
        9 times put(%, 0) = NONE
        lostDay(0, 19, 14, 1000) = 9
        8 times put(%, 0) = 20
        put(8, 1) = 1
        """);
  }

  private static void put() {
    Script.holds("37: NONE: no such ones", SMALL, """
        lostDay(0, 2, 1, 1000) = 2
        put(-1, 0) = NONE
        put(3, 0) = NONE
        put(0, -1) = NONE
        put(0, 2) = NONE
        put(min, max) = NONE
        put(0, 0) = 3
        put(0, 1) = 1
        """);
    Script.holds("37: NONE: had none", SMALL, """
        3 times put(%, 0) = NONE
        3 times put(%, 1) = NONE
        lostDay(0, 2, 1, 1000) = 2
        put(2, 0) = NONE
        put(2, 1) = NONE
        """);
    Script.holds("37: for the latest LOST one that it had; NONE: it was not", SMALL, """
        lostDay(0, 2, 1, 1000) = 2
        put(0, 0) = 3
        lostDay(0, 16, 1, 1) = 0
        put(0, 0) = NONE
        put(0, 1) = NONE
        visits(1, 0, 3) = 1
        lostDay(0, 30, 1, 1000) = 2
        put(0, 0) = 31
        """);
    Script.holds("37: VAN 0 and VAN 2", """
        2 times stop(1, 1, 1)
        visit(0, 1, 5)
        lostDay(1, 5, 1, 1000) = 1
        put(0, 1) = 0
        lostDay(0, 20, 1, 1)
        lostDay(1, 20, 1, 1)
        lostDay(1, 19, 1, 1000) = 1
        put(0, 0) = 20
        put(0, 1) = 2
        """);
  }

  private static void known() {
    Script.holds("(0 to 20; 0 at first); 38: false: no such number", """
        2 times book(0, 1, 0, 0)
        move(0, 0)
        where(0, 0, 0) = 1
        knownIn(-1) = false
        knownIn(21) = false
        knownIn(min) = false
        knownIn(max) = false
        move(0, 1)
        where(0, 0, 0) = 2
        knownIn(20) = true
        move(0, 2)
        where(0, 0, 19) = 2
        where(0, 0, 20) = 3
        knownIn(21) = false
        move(1, 2)
        where(1, 0, 19) = 0
        where(1, 0, 20) = 3
        knownIn(0) = true
        move(1, 1)
        where(1, 0, 0) = 2
        """);
    Script.holds("as many DAYS later as was told by then: what is told later does not matter", """
        book(0, 1, 0, 0)
        knownIn(5)
        move(0, 0)
        knownIn(0)
        where(0, 0, 4) = 0
        where(0, 0, 5) = 1
        """);
  }

  private static void where() {
    String moved = """
        book(0, 1, 0, 0)
        now(10)
        move(0, 0)
        now(20)
        move(0, 1)
        now(30)
        """;
    Script.holds("39: NONE: no such ones: the BOOK", moved, """
        where(-1, 10, 10) = NONE
        where(1, 10, 10) = NONE
        where(0, 10, 10) = 1
        """);
    Script.holds("39: on a DAY (to NOW)", moved, """
        where(0, -1, 30) = NONE
        where(0, 31, 31) = NONE
        where(0, max, max) = NONE
        where(0, 0, 30) = 0
        where(0, 30, 30) = 2
        """);
    Script.holds("39: as known on a DAY (from that one to 199)", moved, """
        where(0, 20, 19) = NONE
        where(0, 20, 200) = NONE
        where(0, 20, max) = NONE
        where(0, 20, min) = NONE
        where(0, 20, 20) = 2
        where(0, 20, 199) = 2
        where(0, 19, 19) = 1
        where(0, 19, 199) = 1
        """);
    Script.holds("by acts up to the one: the DAY before, and that DAY", moved, """
        where(0, 9, 199) = 0
        where(0, 10, 199) = 1
        where(0, 19, 199) = 1
        where(0, 20, 199) = 2
        """);
    Script.holds("by acts known by the other the latest: not the one that was known last", """
        book(0, 1, 0, 0)
        knownIn(20)
        now(10)
        move(0, 0)
        knownIn(0)
        now(11)
        move(0, 1)
        where(0, 10, 29) = 0
        where(0, 10, 30) = 1
        where(0, 11, 29) = 2
        where(0, 11, 30) = 2
        """);
    Script.holds("of acts of one DAY the latest", """
        book(0, 1, 0, 0)
        move(0, 0)
        move(0, 2)
        where(0, 0, 0) = 3
        move(0, NONE)
        where(0, 0, 0) = 0
        """);
    Script.holds("acts known behind DAY 199 are never known", """
        book(0, 1, 0, 0)
        now(180)
        knownIn(19)
        move(0, 0)
        where(0, 180, 198) = 0
        where(0, 180, 199) = 1
        knownIn(20)
        move(0, 1)
        where(0, 180, 199) = 1
        """);
    Script.holds("acts (LENT, BACK, LOST, MOVED)", SMALL, """
        book(0, 1, 0, 0)
        move(0, 0)
        now(2)
        lend(0, 1)
        now(16)
        back(0, 0, 0)
        now(30)
        lend(0, 0)
        now(31)
        lost(0)
        where(0, 1, 1) = 1
        where(0, 2, 2) = 11
        where(0, 15, 15) = 11
        where(0, 16, 16) = 1
        where(0, 30, 30) = 10
        where(0, 31, 31) = 40
        count(6) = 5
        """);
  }

  private static void counts() {
    Script.holds("40: what 0 to 5; NONE for others", SMALL, """
        counts(-1, 0) = NONE
        counts(6, 0) = NONE
        counts(min, 0) = NONE
        counts(max, 0) = NONE
        6 times counts(%, 0) = 0
        6 times counts(%, -1) = NONE
        6 times counts(%, min) = NONE
        6 times counts(%, max) = NONE
        """);
    Script.holds("40: 0 LOANS of STOP i, 3 READERS of STOP i, 4 MIXED of STOP i: the last STOP, and one more", SMALL, """
        counts(0, 2) = 0
        counts(0, 3) = NONE
        counts(3, 2) = 0
        counts(3, 3) = NONE
        counts(4, 2) = 0
        counts(4, 3) = NONE
        """);
    Script.holds("40: 1 of KIND i: 7 and 8; 2 of VAN i: 2 and 3; 5 all LOANS (i 0)", """
        counts(1, 7) = 0
        counts(1, 8) = NONE
        counts(2, 2) = 0
        counts(2, 3) = NONE
        counts(5, 0) = 0
        counts(5, 1) = NONE
        counts(0, 0) = NONE
        """);
    Script.holds("LOANS by STOPS, by KINDS, by VANS add up; what comes BACK or is LOST stays counted", SMALL, """
        book(0, 1, 0, 0)
        book(7, 1, 0, 0)
        book(7, 1, 0, 0)
        book(7, 1, 0, 0)
        move(0, 0)
        move(1, 0)
        move(2, 1)
        move(3, 2)
        now(2)
        lend(0, 0)
        back(0, 0, 2)
        lend(0, 2)
        lend(1, 0)
        lost(1)
        now(3)
        lend(2, 3)
        visit(0, 2, 3)
        lend(3, 0)
        counts(0, 0) = 3
        counts(0, 1) = 1
        counts(0, 2) = 1
        counts(1, 0) = 2
        counts(1, 1) = 0
        counts(1, 7) = 3
        counts(2, 0) = 3
        counts(2, 1) = 1
        counts(2, 2) = 1
        counts(5, 0) = 5
        counts(3, 0) = 1
        counts(3, 1) = 1
        counts(3, 2) = 1
        counts(4, 0) = 0
        counts(4, 1) = 1
        """);
    Script.holds("READERS of a STOP who had one LENT at all: what is told as HAD does not count", SMALL, """
        book(0, 1, 0, 0)
        had(0, 0)
        counts(3, 0) = 0
        move(0, 0)
        now(2)
        lend(0, 0)
        counts(3, 0) = 1
        back(0, 0, 0)
        lend(0, 0)
        back(0, 0, 1)
        counts(3, 0) = 1
        lend(0, 1)
        counts(3, 0) = 2
        """);
  }

  private static void council() {
    Script.holds("41: none of fewer than m (1 to 16); NONE: no such ones", SMALL, """
        council(0, 0) = NONE
        council(0, -1) = NONE
        council(0, 17) = NONE
        council(0, max) = NONE
        council(-1, 1) = NONE
        council(3, 1) = NONE
        council(0, 1) = 2
        council(0, 2) = 2
        council(0, 3) = 0
        council(0, 16) = 0
        """);
    Script.holds("all READERS of a STOP: none, and all 16", """
        2 times stop(1, 1, 1)
        16 times reader(1, 0)
        council(0, 1) = 0
        council(1, 16) = 16
        council(1, 1) = 16
        """);
  }

  private static void check() {
    Script.holds("42: -2: it has not so many (the tape stays)", """
        check(1) = -2
        book(0, 1, 0, 0)
        check(1) = -2
        feed(0, 0, -1, 1, 0) = 20
        check(2) = -2
        check(max) = -2
        check(357913942) = -2
        count(5) = 20
        check(1) = NONE
        count(5) = 0
        check(1) = -2
        """);
    Script.holds("42: 400 bytes have 33 threes", """
        32 times book(0, 1, 0, 0)
        20 times feed(0, 0, 0, 0, 0)
        check(34) = -2
        count(5) = 400
        check(33) = 2
        count(5) = 0
        """);
    Script.holds("42: all BOOKS: 32 of them, right", "32 times book(0, 1, 0, 0)", threes(32), "check(32) = NONE", "count(5) = 0");
    Script.holds("42: the last byte of the tape counts: 60 bytes, five BOOKS", SMALL, """
        5 times book(0, 1, 0, 0)
        move(4, 0)
        now(2)
        lend(4, 3) = NONE
        lend(4, 2) = 16
        tape 0 0 NONE 1 0 NONE 2 0 NONE 3 0 NONE 4 12 16
        count(5) = 60
        check(5) = NONE
        tape 0 0 NONE 1 0 NONE 2 0 NONE 3 0 NONE 4 12 17
        check(5) = 14
        """);
    Script.holds("42: all BOOKS: one more than there are", "32 times book(0, 1, 0, 0)", threes(33), "check(33) = 96");
    Script.holds("42: (3 n: some are lacking)", "32 times book(0, 1, 0, 0)", threes(32), "check(31) = 93", "count(5) = 0");
    Script.holds("42: no threes: right without BOOKS, lacking with one", """
        feed(1, 2, 3, 4, 5)
        check(0) = NONE
        count(5) = 0
        book(0, 1, 0, 0)
        check(0) = 0
        feed(1, 2, 3, 4, 5)
        check(0) = 0
        count(5) = 0
        """);
    Script.holds("42: the place of the first number that is not so", """
        2 times book(0, 1, 0, 0)
        move(1, 2)
        tape 0 0 NONE 1 3 NONE
        check(2) = NONE
        tape 1 0 NONE 1 3 NONE
        check(2) = 0
        tape 0 1 NONE 1 3 NONE
        check(2) = 1
        tape 0 0 0 1 3 NONE
        check(2) = 2
        tape 0 0 NONE 0 3 NONE
        check(2) = 3
        tape 0 0 NONE 1 2 NONE
        check(2) = 4
        tape 0 0 NONE 1 3 -2
        check(2) = 5
        tape 9 9 9 9 9 9
        check(2) = 0
        tape 0 0 NONE 9 9 9
        check(2) = 3
        """);
    Script.holds("42: numbers of four bytes, each of them", """
        book(0, 1, 0, 0)
        tape 16777216 0 NONE
        check(1) = 0
        tape 65536 0 NONE
        check(1) = 0
        tape 256 0 NONE
        check(1) = 0
        tape min 0 NONE
        check(1) = 0
        tape 0 0 max
        check(1) = 2
        tape 0 0 16777215
        check(1) = 2
        """);
    Script.holds("where (0 THE STORE, 1 to 3 VAN 0 to 2, 10 and the READER, 40 LOST), its DUE DAY (-1: not OUT)", SMALL, """
        6 times book(0, 1, 0, 0)
        move(1, 0)
        move(2, 1)
        move(3, 2)
        move(4, 0)
        move(5, 0)
        now(2)
        lend(4, 2) = 16
        lend(5, 0) = 16
        lost(5)
        tape 0 0 NONE 1 1 NONE 2 2 NONE 3 3 NONE 4 12 16 5 40 NONE
        check(6) = NONE
        tape 0 0 NONE 1 1 NONE 2 2 NONE 3 3 NONE 4 12 17 5 40 NONE
        check(6) = 14
        tape 0 0 NONE 1 1 NONE 2 2 NONE 3 3 NONE 4 11 16 5 40 NONE
        check(6) = 13
        tape 0 0 NONE 1 1 NONE 2 2 NONE 3 3 NONE 4 12 16 5 40 16
        check(6) = 17
        """);
  }

  private static String threes(int n) {
    StringBuilder all = new StringBuilder("tape");
    for (int b = 0; b < n; b++) all.append(' ').append(b).append(" 0 NONE");
    return all.toString();
  }

  private static void count() {
    Script.holds("43: NONE for others", SMALL, """
        count(-1) = NONE
        count(9) = NONE
        count(13) = NONE
        count(19) = NONE
        count(23) = NONE
        count(30) = NONE
        count(min) = NONE
        count(max) = NONE
        """);
    Script.holds("43: 0 to 8, 10 + v, 20 + s", SMALL, """
        law w1(1=1);w2(1=1);d3(1=1) = 3
        3 times book(0, 9, 0, 0)
        3 times move(%, 2) = true
        count(12) = 27
        feed(0, 0, 0, 0, 0)
        now(2)
        ask(0, 0, 2)
        ask(1, 0, 2)
        lostDay(2, 5, 1, 1)
        count(0) = 2
        count(1) = 3
        count(2) = 3
        count(3) = 4
        count(4) = 3
        count(5) = 20
        count(6) = 3
        count(7) = 2
        count(8) = 1
        count(10) = 0
        count(11) = 0
        count(20) = 2
        count(21) = 1
        count(22) = 1
        """);
    Script.holds("43: asks stay when their DAY is past, until they are asked no more", SMALL, """
        book(0, 1, 0, 0)
        ask(0, 0, 2)
        now(50)
        count(7) = 1
        unask(0, 0) = true
        count(7) = 0
        """);
  }
}
