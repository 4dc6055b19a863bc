/** The bounds that the document's Terms and its promises 1 to 10, 12 and 13 name: one script a sentence. */
public final class BoundsOfTermsTest {
  public static void main(String[] args) {
    days();
    books();
    vans();
    stops();
    visits();
    readers();
    wishes();
    tape();
    Script.end("bounds of terms");
  }

  private static void days() {
    Script.holds("1: DAY 0; no BOOKS, STOPS, READERS, LAW", """
        count(0) = 0
        count(1) = 0
        count(2) = 0
        count(3) = 0
        count(4) = 0
        count(5) = 0
        count(6) = 0
        count(7) = 0
        count(8) = 0
        count(10) = 0
        count(11) = 0
        count(12) = 0
        count(20) = NONE
        bookIs(0, 0) = NONE
        readerIs(0, 0) = NONE
        visits(0, 0, 0) = NONE
        wants(0, 0, false) = NONE
        ring(NONE) = 0
        least(0) = NONE
        check(0) = NONE
        """);
    Script.holds("DAYS 0 to 199: the lowest", """
        now(min) = false
        now(-1) = false
        now(0) = true
        count(0) = 0
        """);
    Script.holds("DAYS 0 to 199: the highest", """
        now(max) = false
        now(200) = false
        count(0) = 0
        now(199) = true
        count(0) = 199
        now(200) = false
        count(0) = 199
        """);
    Script.holds("2: false: it is past", """
        now(50) = true
        now(49) = false
        now(0) = false
        count(0) = 50
        now(50) = true
        now(51) = true
        count(0) = 51
        """);
  }

  private static void books() {
    Script.holds("a KIND (0 to 7)", """
        book(-1, 1, 0, 0) = NONE
        book(8, 1, 0, 0) = NONE
        book(min, 1, 0, 0) = NONE
        book(max, 1, 0, 0) = NONE
        count(1) = 0
        book(0, 1, 0, 0) = 0
        book(7, 1, 0, 0) = 1
        """);
    Script.holds("a LENGTH on the shelf (1 to 9)", """
        book(0, 0, 0, 0) = NONE
        book(0, 10, 0, 0) = NONE
        book(0, min, 0, 0) = NONE
        count(1) = 0
        book(0, 1, 0, 0) = 0
        book(0, 9, 0, 0) = 1
        move(0, 0) = true
        move(1, 1) = true
        count(10) = 1
        count(11) = 9
        """);
    Script.holds("a FORM (0 print, 1 large print, 2 on tape)", """
        book(0, 1, -1, 0) = NONE
        book(0, 1, 3, 0) = NONE
        count(1) = 0
        book(0, 1, 0, 0) = 0
        book(0, 1, 1, 0) = 1
        book(0, 1, 2, 0) = 2
        """);
    Script.holds("a PRICE (0 to 1000)", """
        book(0, 1, 0, -1) = NONE
        book(0, 1, 0, 1001) = NONE
        count(1) = 0
        book(0, 1, 0, 0) = 0
        book(0, 1, 0, 1000) = 1
        stop(0, 0, 1)
        visit(0, 0, 0)
        reader(0, 0)
        2 times move(%, 0) = true
        2 times lend(%, 0) = 14
        lost(0) = 0
        lost(1) = 1000
        readerIs(0, 2) = 1000
        """);
    Script.holds("BOOKS 0 to 31; 3: NONE: 32 are there", """
        31 times book(0, 1, 0, 0) = %
        count(1) = 31
        bookIs(31, 0) = NONE
        book(0, 1, 0, 0) = 31
        bookIs(31, 0) = 0
        book(0, 1, 0, 0) = NONE
        count(1) = 32
        bookIs(32, 0) = NONE
        bookIs(-1, 0) = NONE
        """);
    Script.holds("3: a BOOK, in THE STORE", """
        book(3, 4, 1, 7) = 0
        bookIs(0, 0) = 0
        bookIs(0, 1) = NONE
        bookIs(0, 2) = 0
        bookIs(0, 3) = 0
        bookIs(0, 4) = 0
        count(6) = 0
        where(0, 0, 0) = 0
        """);
  }

  private static void vans() {
    Script.holds("on a VAN (0 to 2)", """
        book(0, 1, 0, 0)
        move(0, -2) = false
        move(0, 3) = false
        move(0, min) = false
        move(0, max) = false
        bookIs(0, 0) = 0
        move(0, 0) = true
        bookIs(0, 0) = 1
        move(0, 2) = true
        bookIs(0, 0) = 3
        shelf(-1, 5) = false
        shelf(3, 5) = false
        shelf(2, 5) = true
        """);
    Script.holds("a SHELF of so much LENGTH (0 to 99)", """
        shelf(0, -1) = false
        shelf(0, 100) = false
        shelf(0, min) = false
        shelf(0, max) = false
        12 times book(0, 9, 0, 0)
        book(0, 1, 0, 0)
        shelf(0, 99) = true
        11 times move(%, 0) = true
        count(10) = 99
        move(12, 0) = false
        shelf(1, 0) = true
        move(12, 1) = false
        shelf(1, 1) = true
        move(12, 1) = true
        """);
    Script.holds("30 at first", """
        4 times book(0, 9, 0, 0)
        book(0, 3, 0, 0)
        book(0, 4, 0, 0)
        book(0, 1, 0, 0)
        3 times move(%, 2) = true
        move(5, 2) = false
        move(4, 2) = true
        move(6, 2) = false
        count(12) = 30
        move(6, 0) = true
        move(3, 1) = true
        """);
    Script.holds("4: false: BOOKS on it are longer together", """
        book(0, 9, 0, 0)
        book(0, 8, 0, 0)
        move(0, 1)
        move(1, 1)
        shelf(1, 16) = false
        shelf(1, 0) = false
        shelf(1, 17) = true
        move(1, NONE)
        shelf(1, 8) = false
        shelf(1, 9) = true
        move(0, NONE)
        shelf(1, 0) = true
        """);
    Script.holds("4: the SHELF that was refused stays as it was", """
        book(0, 9, 0, 0)
        book(0, 9, 0, 0)
        move(0, 0)
        shelf(0, 8) = false
        shelf(0, 100) = false
        shelf(0, -1) = false
        move(1, 0) = true
        """);
  }

  private static void stops() {
    Script.holds("a place (x, y from 0 to 99)", """
        stop(-1, 0, 1) = NONE
        stop(100, 0, 1) = NONE
        stop(0, -1, 1) = NONE
        stop(0, 100, 1) = NONE
        stop(min, max, 1) = NONE
        count(2) = 0
        stop(0, 99, 1) = 0
        stop(99, 0, 1) = 1
        visit(0, 0, 0)
        visit(1, 1, 0)
        round(0, 0, NONE) = 198
        round(1, 0, NONE) = 198
        """);
    Script.holds("a HALT in minutes (1 to 200)", """
        stop(0, 0, 0) = NONE
        stop(0, 0, 201) = NONE
        stop(0, 0, -1) = NONE
        count(2) = 0
        stop(0, 0, 1) = 0
        stop(0, 0, 200) = 1
        visit(0, 0, 0)
        visit(1, 1, 0)
        round(0, 0, 8) = 1
        round(1, 0, 8) = 200
        """);
    Script.holds("STOPS 0 to 9; 5: NONE: 10 are there", """
        9 times stop(%, 0, 1) = %
        visit(9, 0, 0) = false
        reader(9, 0) = NONE
        count(29) = NONE
        stop(0, 0, 1) = 9
        visit(9, 0, 0) = true
        reader(9, 0) = 0
        count(29) = 1
        stop(0, 0, 1) = NONE
        count(2) = 10
        visit(10, 0, 0) = false
        count(30) = NONE
        """);
  }

  private static void visits() {
    Script.holds("6: of a STOP: no such ones", """
        visit(0, 0, 0) = false
        stop(1, 1, 1)
        visit(-1, 0, 0) = false
        visit(1, 0, 0) = false
        visit(min, 0, 0) = false
        visit(0, 0, 0) = true
        """);
    Script.holds("6: by a VAN (van NONE: none any more): no such ones", """
        stop(1, 1, 1)
        visit(0, -2, 0) = false
        visit(0, 3, 0) = false
        visit(0, NONE, 0) = true
        visit(0, 0, 0) = true
        visits(0, 0, 0) = 1
        visit(0, 2, 0) = true
        visits(0, 0, 0) = 0
        visits(2, 0, 0) = 1
        visit(0, NONE, 0) = true
        visits(2, 0, 0) = 0
        """);
    Script.holds("6: on DAYS of a number modulo 14 (0 to 13): no such ones", """
        stop(1, 1, 1)
        visit(0, 0, -1) = false
        visit(0, 0, 14) = false
        visit(0, 0, max) = false
        visits(0, 0, 0) = 0
        visit(0, 0, 0) = true
        visit(0, 0, 13) = true
        """);
    Script.holds("on each DAY that is so much modulo 14: the lowest, 0", """
        stop(1, 1, 1)
        visit(0, 0, 0)
        visits(0, 0, 0) = 1
        visits(0, 0, 1) = 0
        visits(0, 0, 13) = 0
        visits(0, 0, 14) = 1
        visits(0, 0, 15) = 0
        visits(0, 0, 195) = 0
        visits(0, 0, 196) = 1
        visits(0, 0, 197) = 0
        """);
    Script.holds("on each DAY that is so much modulo 14: the highest, 13", """
        stop(1, 1, 1)
        visit(0, 0, 13)
        visits(0, 0, 0) = 0
        visits(0, 0, 12) = 0
        visits(0, 0, 13) = 1
        visits(0, 0, 14) = 0
        visits(0, 0, 27) = 1
        visits(0, 0, 195) = 1
        visits(0, 0, 199) = 0
        """);
    Script.holds("on each DAY that is so much modulo 14: the last DAY, 199", """
        stop(1, 1, 1)
        visit(0, 0, 3)
        visits(0, 0, 198) = 0
        visits(0, 0, 199) = 1
        """);
    Script.holds("a STOP has one VISIT a fortnight, told (none at first)", """
        stop(1, 1, 1)
        14 times visits(0, 0, %) = 0
        visit(0, 0, 4) = true
        visit(0, 0, 5) = true
        visits(0, 0, 4) = 0
        visits(0, 0, 5) = 1
        visit(0, 1, 5) = true
        visits(0, 0, 5) = 0
        visits(1, 0, 5) = 1
        """);
    Script.holds("a VISIT that is told anew leaves those of other STOPS as they are", """
        3 times stop(%, 0, 1)
        3 times visit(%, 1, 5)
        visit(1, 1, 6) = true
        visits(1, 0, 5) = 1
        visits(1, 1, 5) = 0
        visits(1, 2, 5) = 1
        visits(1, 1, 6) = 1
        visit(0, NONE, 5) = true
        visits(1, 0, 5) = 0
        visits(1, 2, 5) = 1
        """);
    Script.holds("unless that DAY is LOST for that VAN", """
        2 times stop(50, 50, 200)
        visit(0, 0, 5)
        visit(1, 1, 5)
        lostDay(0, 19, 1, 1) = 0
        visits(0, 0, 5) = 1
        visits(0, 0, 19) = 0
        visits(0, 0, 33) = 1
        visits(1, 1, 19) = 1
        """);
    Script.holds("one that was PUT to a DAY for a LOST one is a VISIT, too", """
        stop(1, 1, 1)
        visit(0, 1, 5)
        lostDay(1, 5, 1, 1000) = 1
        visits(0, 0, 6) = 1
        visits(1, 0, 6) = 0
        visits(0, 0, 20) = 0
        visits(0, 0, 5) = 0
        """);
    Script.holds("13: NONE: no such ones", """
        stop(1, 1, 1)
        visit(0, 0, 0)
        visits(-1, 0, 0) = NONE
        visits(3, 0, 0) = NONE
        visits(0, -1, 0) = NONE
        visits(0, 1, 0) = NONE
        visits(0, 0, -1) = NONE
        visits(0, 0, 200) = NONE
        visits(min, min, min) = NONE
        visits(max, max, max) = NONE
        visits(0, 0, 0) = 1
        visits(2, 0, 0) = 0
        visits(0, 0, 199) = 0
        """);
  }

  private static void readers() {
    Script.holds("7: of a STOP: no such ones", """
        reader(0, 0) = NONE
        stop(1, 1, 1)
        reader(-1, 0) = NONE
        reader(1, 0) = NONE
        reader(max, 0) = NONE
        count(3) = 0
        reader(0, 0) = 0
        """);
    Script.holds("a FORM that they need (0 any, 1, 2 just that)", """
        stop(1, 1, 1)
        reader(0, -1) = NONE
        reader(0, 3) = NONE
        count(3) = 0
        3 times reader(0, %) = %
        3 times book(0, 1, %, 0)
        law w5(1=1) = 1
        wants(0, 0, false) = 5
        wants(0, 1, false) = 5
        wants(0, 2, false) = 5
        wants(1, 0, false) = 0
        wants(1, 1, false) = 5
        wants(1, 2, false) = 0
        wants(2, 0, false) = 0
        wants(2, 1, false) = 0
        wants(2, 2, false) = 5
        """);
    Script.holds("READERS 0 to 15; 7: NONE: 16 are there", """
        stop(1, 1, 1)
        15 times reader(0, 0) = %
        readerIs(15, 0) = NONE
        reader(0, 0) = 15
        readerIs(15, 0) = 0
        reader(0, 0) = NONE
        count(3) = 16
        count(20) = 16
        readerIs(16, 0) = NONE
        """);
    Script.holds("for each KIND a TASTE (0 to 9; 0 at first)", """
        stop(1, 1, 1)
        2 times reader(0, 0)
        8 times book(%, 1, 0, 0)
        law wt(1=1) = 1
        8 times wants(0, %, false) = 0
        taste(0, 0, -1) = false
        taste(0, 0, 10) = false
        wants(0, 0, false) = 0
        taste(0, 0, 9) = true
        wants(0, 0, false) = 9
        taste(0, 0, 10) = false
        wants(0, 0, false) = 9
        taste(0, 0, 0) = true
        wants(0, 0, false) = 0
        """);
    Script.holds("8: false: no such ones", """
        stop(1, 1, 1)
        taste(0, 0, 5) = false
        2 times reader(0, 0)
        8 times book(%, 1, 0, 0)
        law wt(1=1)
        taste(-1, 0, 5) = false
        taste(2, 0, 5) = false
        taste(0, -1, 5) = false
        taste(0, 8, 5) = false
        taste(1, -1, 5) = false
        taste(min, max, 5) = false
        8 times wants(0, %, false) = 0
        8 times wants(1, %, false) = 0
        taste(0, 7, 5) = true
        taste(1, 0, 6) = true
        wants(0, 7, false) = 5
        wants(1, 0, false) = 6
        wants(0, 0, false) = 0
        wants(1, 7, false) = 0
        """);
    Script.holds("9: false: no such ones, they have", """
        stop(1, 1, 1)
        reader(0, 0)
        had(0, 0) = false
        32 times book(0, 1, 0, 0)
        had(-1, 0) = false
        had(1, 0) = false
        had(0, -1) = false
        had(0, 32) = false
        readerIs(0, 3) = 0
        had(0, 31) = true
        had(0, 31) = false
        had(0, 0) = true
        readerIs(0, 3) = 2
        bookIs(31, 4) = 1
        """);
    Script.holds("They have HAD what was lent to them, and what is told so", """
        stop(1, 1, 1)
        visit(0, 0, 0)
        2 times reader(0, 0)
        2 times book(0, 1, 0, 0)
        move(0, 0)
        lend(0, 0) = 14
        had(0, 0) = false
        had(1, 0) = true
        bookIs(0, 4) = 2
        readerIs(0, 3) = 1
        back(0, 0, 1) = 0
        had(0, 0) = false
        lend(0, 1) = 14
        bookIs(0, 4) = 2
        readerIs(1, 3) = 1
        """);
  }

  private static void wishes() {
    Script.holds("12: NONE: no such ones", """
        stop(1, 1, 1)
        wants(0, 0, true) = NONE
        16 times reader(0, 0)
        wants(0, 0, true) = NONE
        32 times book(0, 1, 0, 0)
        wants(-1, 0, true) = NONE
        wants(16, 0, true) = NONE
        wants(0, -1, true) = NONE
        wants(0, 32, true) = NONE
        wants(min, max, false) = NONE
        wants(15, 31, false) = 0
        """);
    Script.holds("A READER WANTS a BOOK by w (none: 0)", """
        stop(1, 1, 1)
        reader(0, 0)
        book(0, 1, 0, 0)
        wants(0, 0, false) = 0
        law d5(1=1);f7(1=1) = 2
        wants(0, 0, false) = 0
        law w5(1=2) = 1
        wants(0, 0, false) = 0
        law w5(1=2);w6(1=1) = 2
        wants(0, 0, false) = 6
        """);
    Script.holds("0 if they have HAD it (told to offer what they had: HAD does not count)", """
        stop(1, 1, 1)
        2 times reader(0, 0)
        book(0, 1, 0, 0)
        law w5(1=1) = 1
        wants(0, 0, false) = 5
        had(0, 0)
        wants(0, 0, false) = 0
        wants(0, 0, true) = 5
        wants(1, 0, false) = 5
        """);
    Script.holds("0 if they need another FORM, told to offer what they had or not", """
        stop(1, 1, 1)
        reader(0, 2)
        book(0, 1, 1, 0)
        book(0, 1, 2, 0)
        law w5(1=1) = 1
        2 times had(0, %)
        wants(0, 0, true) = 0
        wants(0, 1, true) = 5
        wants(0, 1, false) = 0
        """);
  }

  private static void tape() {
    Script.holds("10: how many it has; NONE if that would be more than 400", """
        19 times feed(%, 0, 0, 0, 0)
        count(5) = 380
        feed(0, 0, 0, 0, 0) = 400
        feed(0, 0, 0, 0, 0) = NONE
        count(5) = 400
        feed(1, 2, 3, 4, 5) = NONE
        count(5) = 400
        """);
    Script.holds("10: Twenty bytes come behind the tape, the highest of each int first", """
        2 times book(0, 1, 0, 0)
        feed(0, 0, -1, 1, 0) = 20
        feed(-1, 0, 0, 0, 0) = 40
        check(2) = NONE
        feed(0, 0, -1, 16777216, 0) = 20
        feed(-1, 0, 0, 0, 0) = 40
        check(2) = 3
        # w5(1=1) is 0x77352831 0x3D312900
        feed(0, 0, 0, 0, 1999972401) = 20
        law(20) = -1000
        feed(1999972401, 1026631936, 0, 0, 0) = 20
        law(7) = 1
        """);
    Script.holds("10: what is refused does not come to the tape", """
        2 times book(0, 1, 0, 0)
        feed(0, 0, -1, 1, 0) = 20
        feed(-1, 7, 7, 7, 7) = 40
        18 times feed(7, 7, 7, 7, 7)
        count(5) = 400
        feed(9, 9, 9, 9, 9) = NONE
        check(2) = NONE
        count(5) = 0
        feed(0, 0, -1, 1, 0) = 20
        """);
    Script.holds("bytes beyond 127 are no signs", """
        # w, 0x80 and 0xFF: negative as ints
        feed(2004877312, 0, 0, 0, 0) = 20
        law(4) = -1001
        feed(-1, -1, -1, -1, -1) = 20
        law(20) = -1000
        """);
  }
}
