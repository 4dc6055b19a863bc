import java.util.Arrays;

/** Books on a van: a library on wheels; the document's numbered promises say what each call answers. */
public final class VanShelves {
    public static final int NONE = -1;

    /** The document's second answer for "there is none", where NONE says "no such ones". */
    private static final int UNTOLD = -2;

    private static final int DAYS = 200;
    private static final int LAST_DAY = DAYS - 1;
    private static final int FORTNIGHT = 14;
    private static final int VANS = 3;
    private static final int BOOKS = 32;
    private static final int KINDS = 8;
    private static final int STOPS = 10;
    private static final int READERS = 16;
    private static final int ACTS = 200;
    private static final int TAPE = 400;
    private static final int TEXT = 200;
    private static final int CLAUSES = 14;
    private static final int OPEN_MOST = 6;
    private static final int DIGITS_MOST = 5;
    private static final int STACK = 64;
    private static final int SIGNS = 128;
    private static final int ROUND_MOST = 8;
    private static final int LOAD_MOST = 12;
    private static final int MUCH_MOST = 1000;
    private static final long LOW_WORD = 0xFFFFFFFFL;

    private static final int IN_STORE = 0;
    private static final int ON_VAN = 1;
    private static final int WITH_READER = 10;
    private static final int IS_LOST = 40;

    private static final int FAULT_SIGN = 1;
    private static final int FAULT_DIGIT = 2;
    private static final int FAULT_CLAUSE = 4;
    private static final int FAULT_OPEN = 5;

    // Steps of a law beside those that are signs themselves: + - * / % < > =
    private static final int NUMBER = 0;
    private static final int LETTER = 1;
    private static final int NOT = 2;
    private static final int JUMP_IF_NOT = 3;
    private static final int JUMP_IF = 4;

    private final Tape tape;
    private final Books books;
    private final Readers readers;
    private final Stops stops;
    private final Asks asks;
    private final Acts acts;
    private final Wishes wishes;
    private final Rounds rounds;
    private final Serving serving;
    private final int[] shelves;
    private final int[] loansOfVan;
    private Law spareLaw;
    private int today;

    public VanShelves() {
        tape = new Tape();
        books = new Books();
        readers = new Readers();
        stops = new Stops();
        asks = new Asks();
        acts = new Acts();
        wishes = new Wishes(books, readers, stops);
        rounds = new Rounds(stops);
        serving = new Serving();
        shelves = new int[VANS];
        Arrays.fill(shelves, 30);
        loansOfVan = new int[VANS];
        spareLaw = new Law();
        today = 0;
    }

    public boolean now(int day) {
        if (!within(day, today, LAST_DAY)) {
            return false;
        }
        today = day;
        return true;
    }

    public int book(int kind, int length, int form, int price) {
        boolean such = within(kind, 0, KINDS - 1) && within(length, 1, 9) && within(form, 0, 2) && within(price, 0, 1000);
        return such ? books.add(kind, length, form, price) : NONE;
    }

    public boolean shelf(int van, int length) {
        if (!isVan(van) || !within(length, 0, 99) || books.lengthOn(van) > length) {
            return false;
        }
        shelves[van] = length;
        return true;
    }

    public int stop(int x, int y, int halt) {
        boolean such = within(x, 0, 99) && within(y, 0, 99) && within(halt, 1, 200);
        return such ? stops.add(x, y, halt) : NONE;
    }

    public boolean visit(int stop, int van, int day) {
        if (!stops.has(stop) || !(van == NONE || isVan(van)) || !within(day, 0, FORTNIGHT - 1)) {
            return false;
        }
        stops.tell(stop, van, day);
        return true;
    }

    public int reader(int stop, int form) {
        if (!stops.has(stop) || !within(form, 0, 2)) {
            return NONE;
        }
        int r = readers.add(stop, form);
        if (r != NONE) {
            stops.readers[stop] |= 1 << r;
        }
        return r;
    }

    public boolean taste(int reader, int kind, int much) {
        if (!readers.has(reader) || !within(kind, 0, KINDS - 1) || !within(much, 0, 9)) {
            return false;
        }
        readers.taste[reader * KINDS + kind] = much;
        return true;
    }

    public boolean had(int r, int b) {
        if (!isPair(r, b) || books.wasHad(b, r)) {
            return false;
        }
        remember(r, b);
        return true;
    }

    public int feed(int a, int b, int c, int d, int e) {
        if (tape.size > TAPE - 20) {
            return NONE;
        }
        tape.append(a);
        tape.append(b);
        tape.append(c);
        tape.append(d);
        tape.append(e);
        return tape.size;
    }

    public int law(int n) {
        if (!within(n, 1, TEXT) || n > tape.size) {
            return NONE;
        }
        spareLaw.clear();
        int fault = new LawReading(tape.bytes, n, spareLaw).read();
        tape.clear();
        if (fault != 0) {
            return -fault;
        }
        Law before = wishes.law;
        wishes.law = spareLaw;
        spareLaw = before;
        return wishes.law.clauses;
    }

    public int wants(int r, int b, boolean again) {
        return isPair(r, b) ? wishes.wish(r, b, again, today) : NONE;
    }

    public int visits(int v, int stop, int day) {
        if (!isVan(v) || !stops.has(stop) || !isDay(day)) {
            return NONE;
        }
        return stops.goesTo(v, stop, day) ? 1 : 0;
    }

    public boolean move(int b, int van) {
        if (!books.has(b) || !(van == NONE || isVan(van)) || acts.isFull()) {
            return false;
        }
        int to = van == NONE ? IN_STORE : ON_VAN + van;
        int from = books.place[b];
        if (from >= WITH_READER || from == to || (van != NONE && !fits(b, van))) {
            return false;
        }
        transfer(b, to);
        return true;
    }

    public int lend(int b, int r) {
        if (!isPair(r, b) || acts.isFull()) {
            return NONE;
        }
        int van = books.vanOf(b);
        if (van == NONE || !stops.goesTo(van, readers.stop[r], today)) {
            return NONE;
        }
        int due = today + wishes.daysLent(r, b, today);
        transfer(b, WITH_READER + r);
        books.due[b] = due;
        books.loans[b]++;
        readers.loans[r]++;
        readers.out[r]++;
        loansOfVan[van]++;
        remember(r, b);
        asks.remove(r, b);
        return due;
    }

    public int back(int b, int van, int r) {
        if (!isPair(r, b) || !isVan(van) || acts.isFull()) {
            return NONE;
        }
        int holder = books.holder(b);
        if (holder == NONE || !stops.goesTo(van, readers.stop[r], today) || !fits(b, van)) {
            return NONE;
        }
        int fine = wishes.fine(holder, b, today);
        if (holder != r) {
            books.mixed[b]++;
            stops.mixed[readers.stop[r]]++;
        }
        settle(b, holder, fine, ON_VAN + van);
        return fine;
    }

    public int lost(int b) {
        if (!books.has(b) || acts.isFull()) {
            return NONE;
        }
        int holder = books.holder(b);
        if (holder == NONE) {
            return NONE;
        }
        settle(b, holder, books.price[b], IS_LOST);
        return books.price[b];
    }

    public int bookIs(int b, int what) {
        if (!books.has(b)) {
            return NONE;
        }
        switch (what) {
            case 0:
                return books.place[b];
            case 1:
                return books.due[b];
            case 2:
                return books.loans[b];
            case 3:
                return books.mixed[b];
            case 4:
                return Integer.bitCount(books.hadBy[b]);
            default:
                return NONE;
        }
    }

    public int readerIs(int r, int what) {
        if (!readers.has(r)) {
            return NONE;
        }
        switch (what) {
            case 0:
                return readers.out[r];
            case 1:
                return readers.loans[r];
            case 2:
                return readers.owed[r];
            case 3:
                return Integer.bitCount(readers.hadBooks[r]);
            case 4:
                return asks.ofReader(r);
            default:
                return NONE;
        }
    }

    public int pays(int r, int pence) {
        if (!readers.has(r) || !within(pence, 1, readers.owed[r])) {
            return NONE;
        }
        readers.owed[r] -= pence;
        return readers.owed[r];
    }

    public boolean ask(int r, int b, int day) {
        if (!isPair(r, b) || !within(day, today, LAST_DAY)) {
            return false;
        }
        boolean isVisited = stops.lowestVan(readers.stop[r], day) != NONE;
        if (!isVisited || asks.dayOf(r, b) != NONE || books.holder(b) == r) {
            return false;
        }
        asks.add(r, b, day);
        return true;
    }

    public boolean unask(int r, int b) {
        return isPair(r, b) && asks.remove(r, b);
    }

    public long aboard(int day, int van) {
        return isDay(day) && isVan(van) ? asLong(boardOf(day, van)) : NONE;
    }

    public int promise(int r, int b) {
        return isPair(r, b) ? promisedDay(r, b) : NONE;
    }

    public int whyNot(int r, int b) {
        if (!isPair(r, b)) {
            return NONE;
        }
        int day = asks.dayOf(r, b);
        return day == NONE || day < today ? NONE : hindrance(r, b, day);
    }

    public int ring(int what) {
        asks.findRing(books, readers.size);
        if (what == NONE) {
            return asks.ringSize;
        }
        return within(what, 0, asks.ringSize - 1) ? asks.ring[what] : NONE;
    }

    public long load(int van, int much, int kinds, int what) {
        if (!isVan(van) || !isMuch(much) || !within(kinds, 0, 255) || !within(what, 0, 2)) {
            return NONE;
        }
        gatherLoad(van, much);
        if (!serving.choose(shelves[van], kinds)) {
            return UNTOLD;
        }
        switch (what) {
            case 0:
                return asLong(serving.bestBooks());
            case 1:
                return serving.bestServed;
            default:
                return serving.bestLength;
        }
    }

    public int served(int van, long books, int much) {
        if (!isVan(van) || !isMuch(much) || books < 0 || books > LOW_WORD) {
            return NONE;
        }
        int set = (int) books;
        if ((set & ~this.books.all()) != 0) {
            return NONE;
        }
        int here = readersToday(van);
        for (int r = 0; r < READERS; r++) {
            serving.wanted[r] = hasBit(here, r) ? wantedOf(r, set, much) : 0;
        }
        return serving.mostReaders();
    }

    public int least(int what) {
        int least = NONE;
        int leastVisits = 0;
        for (int r = 0; r < readers.size; r++) {
            int visits = stops.visitsUpTo(readers.stop[r], today);
            if (visits > 0 && (least == NONE || readers.loans[r] * leastVisits < readers.loans[least] * visits)) {
                least = r;
                leastVisits = visits;
            }
        }
        if (least == NONE) {
            return NONE;
        }
        switch (what) {
            case 0:
                return least;
            case 1:
                return readers.loans[least];
            case 2:
                return leastVisits;
            default:
                return NONE;
        }
    }

    public long dull(int van, int much) {
        if (!isVan(van) || !isMuch(much)) {
            return NONE;
        }
        int told = readersTold(van);
        int dull = 0;
        for (int b = 0; b < books.size; b++) {
            if (books.vanOf(b) == van && wantersOf(b, told, much) == 0) {
                dull |= 1 << b;
            }
        }
        return asLong(dull);
    }

    public int onward(int b, int much) {
        if (!books.has(b) || !isMuch(much)) {
            return NONE;
        }
        int best = UNTOLD;
        int most = 0;
        for (int van = 0; van < VANS; van++) {
            int wanters = Integer.bitCount(wantersOf(b, readersTold(van), much));
            if (wanters > most) {
                best = van;
                most = wanters;
            }
        }
        return best;
    }

    public int different(int stop, int day) {
        if (!stops.has(stop) || !isDay(day)) {
            return NONE;
        }
        int vans = stops.vansWithin(stop, day, Math.min(day + FORTNIGHT - 1, LAST_DAY));
        if (vans == 0) {
            return NONE;
        }
        int different = 0;
        for (int b = 0; b < books.size; b++) {
            int van = books.vanOf(b);
            if (van != NONE && hasBit(vans, van) && (books.hadBy[b] & stops.readers[stop]) == 0) {
                different++;
            }
        }
        return different;
    }

    public boolean pace(int minutes) {
        if (!within(minutes, 1, 9)) {
            return false;
        }
        rounds.minutesPerMile = minutes;
        return true;
    }

    public int round(int van, int day, int what) {
        if (!isVan(van) || !isDay(day) || !within(what, NONE, ROUND_MOST)) {
            return NONE;
        }
        int set = stops.stopsOn(van, day);
        int miles = rounds.shortest(set);
        if (miles == UNTOLD || what == NONE) {
            return miles;
        }
        return what == ROUND_MOST ? rounds.minutes(set, miles) : rounds.stopAt(what);
    }

    public int went(int stop, int what) {
        if (!stops.has(stop)) {
            return NONE;
        }
        switch (what) {
            case 0:
                return milesSaved(stop);
            case 1:
                return Integer.bitCount(stops.readers[stop]);
            case 2:
                return loansOf(stop);
            default:
                return NONE;
        }
    }

    public int lostDay(int van, int day, int n, int minutes) {
        boolean such = isVan(van) && within(day, today, LAST_DAY) && within(n, 1, 28) && within(minutes, 1, 1000);
        if (!such || stops.isLost(van, day)) {
            return NONE;
        }
        int set = stops.stopsOn(van, day);
        stops.lose(van, day);
        int lastDay = Math.min(day + n, LAST_DAY);
        int count = 0;
        for (int stop = 0; stop < stops.size; stop++) {
            if (hasBit(set, stop) && putElsewhere(stop, day + 1, lastDay, minutes)) {
                count++;
            }
        }
        return count;
    }

    public int put(int stop, int what) {
        if (!stops.has(stop)) {
            return NONE;
        }
        switch (what) {
            case 0:
                return stops.putDay[stop];
            case 1:
                return stops.putVan[stop];
            default:
                return NONE;
        }
    }

    public boolean knownIn(int days) {
        if (!within(days, 0, 20)) {
            return false;
        }
        acts.delay = days;
        return true;
    }

    public int where(int b, int day, int known) {
        if (!books.has(b) || !within(day, 0, today) || !within(known, day, LAST_DAY)) {
            return NONE;
        }
        return acts.placeOf(b, day, known);
    }

    public int counts(int what, int i) {
        switch (what) {
            case 0:
                return stops.has(i) ? loansOf(i) : NONE;
            case 1:
                return within(i, 0, KINDS - 1) ? books.loansOfKind(i) : NONE;
            case 2:
                return isVan(i) ? loansOfVan[i] : NONE;
            case 3:
                return stops.has(i) ? borrowersOf(i) : NONE;
            case 4:
                return stops.has(i) ? stops.mixed[i] : NONE;
            case 5:
                return i == 0 ? loansOfVan[0] + loansOfVan[1] + loansOfVan[2] : NONE;
            default:
                return NONE;
        }
    }

    public int council(int stop, int m) {
        if (!stops.has(stop) || !within(m, 1, READERS)) {
            return NONE;
        }
        int readersThere = Integer.bitCount(stops.readers[stop]);
        return readersThere < m ? 0 : readersThere;
    }

    public int check(int n) {
        if (!within(n, 0, tape.size / 12)) {
            return UNTOLD;
        }
        int wrong = firstWrong(n);
        tape.clear();
        return wrong;
    }

    public int count(int what) {
        if (within(what, 10, 10 + VANS - 1)) {
            return books.lengthOn(what - 10);
        }
        if (within(what, 20, 20 + stops.size - 1)) {
            return Integer.bitCount(stops.readers[what - 20]);
        }
        switch (what) {
            case 0:
                return today;
            case 1:
                return books.size;
            case 2:
                return stops.size;
            case 3:
                return readers.size;
            case 4:
                return wishes.law.clauses;
            case 5:
                return tape.size;
            case 6:
                return acts.size;
            case 7:
                return asks.size;
            case 8:
                return stops.lostSize;
            default:
                return NONE;
        }
    }

    private static boolean within(int value, int low, int high) {
        return value >= low && value <= high;
    }

    private static boolean isVan(int van) {
        return within(van, 0, VANS - 1);
    }

    private static boolean isDay(int day) {
        return within(day, 0, LAST_DAY);
    }

    private static boolean isMuch(int much) {
        return within(much, 1, MUCH_MOST);
    }

    private static boolean hasBit(int set, int place) {
        return (set >>> place & 1) != 0;
    }

    private static long asLong(int set) {
        return set & LOW_WORD;
    }

    private boolean isPair(int r, int b) {
        return readers.has(r) && books.has(b);
    }

    private boolean fits(int b, int van) {
        return books.lengthOn(van) + books.length[b] <= shelves[van];
    }

    private void remember(int r, int b) {
        books.hadBy[b] |= 1 << r;
        readers.hadBooks[r] |= 1 << b;
    }

    private void transfer(int b, int to) {
        books.place[b] = to;
        acts.add(b, to, today);
    }

    private void settle(int b, int holder, int pence, int to) {
        readers.owed[holder] += pence;
        readers.out[holder]--;
        books.due[b] = NONE;
        transfer(b, to);
    }

    private int boardOf(int day, int van) {
        int there = stops.stopsOn(van, day);
        int set = 0;
        for (int r = 0; r < readers.size; r++) {
            if (hasBit(there, readers.stop[r])) {
                set |= asks.booksFor(r, day);
            }
        }
        return set;
    }

    private int promisedDay(int r, int b) {
        int home = readers.stop[r];
        int holder = books.holder(b);
        int from = today;
        if (books.place[b] == IS_LOST) {
            return UNTOLD;
        }
        if (holder != NONE) {
            int theirs = readers.stop[holder];
            int returned = stops.firstDay(theirs, Math.max(books.due[b], today));
            if (returned == NONE) {
                return UNTOLD;
            }
            from = theirs == home ? returned : returned + 1;
        } else if (isElsewhereToday(b, home)) {
            from = today + 1;
        }
        int day = stops.firstDay(home, from);
        return day == NONE ? UNTOLD : day;
    }

    private boolean isElsewhereToday(int b, int stop) {
        int van = books.vanOf(b);
        return van != NONE && !stops.goesTo(van, stop, today);
    }

    private int hindrance(int r, int b, int day) {
        int home = readers.stop[r];
        int van = stops.lowestVan(home, day);
        if (books.place[b] == IS_LOST) {
            return 1;
        }
        if (van == NONE) {
            return 2;
        }
        if (books.holder(b) != NONE) {
            int promised = promisedDay(r, b);
            if (promised == UNTOLD || promised > day) {
                return 3;
            }
        }
        if (day == today && isElsewhereToday(b, home)) {
            return 4;
        }
        if (asks.isBehindAnother(r, b, today)) {
            return 5;
        }
        return books.lengthOf(boardOf(day, van)) > shelves[van] ? 6 : 0;
    }

    private int readersOf(int stopSet) {
        int set = 0;
        for (int stop = 0; stop < stops.size; stop++) {
            if (hasBit(stopSet, stop)) {
                set |= stops.readers[stop];
            }
        }
        return set;
    }

    private int readersToday(int van) {
        return readersOf(stops.stopsOn(van, today));
    }

    private int readersTold(int van) {
        int set = 0;
        for (int stop = 0; stop < stops.size; stop++) {
            if (stops.van[stop] == van) {
                set |= stops.readers[stop];
            }
        }
        return set;
    }

    private int wantersOf(int b, int readerSet, int much) {
        int set = 0;
        for (int r = 0; r < readers.size; r++) {
            if (hasBit(readerSet, r) && wishes.wish(r, b, false, today) >= much) {
                set |= 1 << r;
            }
        }
        return set;
    }

    private int wantedOf(int r, int bookSet, int much) {
        int set = 0;
        for (int b = 0; b < books.size; b++) {
            if (hasBit(bookSet, b) && wishes.wish(r, b, false, today) >= much) {
                set |= 1 << b;
            }
        }
        return set;
    }

    private void gatherLoad(int van, int much) {
        int here = readersToday(van);
        int board = boardOf(today, van);
        serving.clear();
        for (int b = 0; b < books.size && serving.size < LOAD_MOST; b++) {
            boolean near = books.place[b] == IN_STORE || books.vanOf(b) == van;
            int wanters = near ? wantersOf(b, here, much) : 0;
            boolean must = hasBit(board, b);
            if (near && (must || wanters != 0)) {
                serving.offer(b, wanters, must, books);
            }
        }
    }

    private int milesSaved(int stop) {
        int set = stops.toldWith(stop);
        int with = rounds.shortest(set);
        int without = rounds.shortest(set & ~(1 << stop));
        return with == UNTOLD || without == UNTOLD ? UNTOLD : with - without;
    }

    private boolean putElsewhere(int stop, int firstDay, int lastDay, int bound) {
        int least = NONE;
        int bestDay = NONE;
        int bestVan = NONE;
        for (int day = firstDay; day <= lastDay; day++) {
            for (int van = 0; van < VANS; van++) {
                int growth = stops.isLost(van, day) ? NONE : rounds.growth(stops.stopsOn(van, day), stop, bound);
                if (growth != NONE && (least == NONE || growth < least)) {
                    least = growth;
                    bestDay = day;
                    bestVan = van;
                }
            }
        }
        if (least == NONE) {
            stops.forgetPut(stop);
            return false;
        }
        stops.keepPut(stop, bestVan, bestDay);
        return true;
    }

    private int loansOf(int stop) {
        int loans = 0;
        for (int r = 0; r < readers.size; r++) {
            if (readers.stop[r] == stop) {
                loans += readers.loans[r];
            }
        }
        return loans;
    }

    private int borrowersOf(int stop) {
        int borrowers = 0;
        for (int r = 0; r < readers.size; r++) {
            if (readers.stop[r] == stop && readers.loans[r] > 0) {
                borrowers++;
            }
        }
        return borrowers;
    }

    private int firstWrong(int n) {
        for (int b = 0; b < n; b++) {
            if (b >= books.size || tape.numberAt(3 * b) != b) {
                return 3 * b;
            }
            if (tape.numberAt(3 * b + 1) != books.place[b]) {
                return 3 * b + 1;
            }
            if (tape.numberAt(3 * b + 2) != books.due[b]) {
                return 3 * b + 2;
            }
        }
        return n < books.size ? 3 * n : NONE;
    }

    /** Bytes that wait to become a law or a check. */
    private static final class Tape {
        final int[] bytes = new int[TAPE];
        int size;

        void clear() {
            size = 0;
        }

        void append(int number) {
            for (int shift = 24; shift >= 0 && size < TAPE; shift -= 8) {
                bytes[size] = number >>> shift & 255;
                size++;
            }
        }

        int byteAt(int place) {
            return within(place, 0, size - 1) ? bytes[place] : NONE;
        }

        int numberAt(int place) {
            int number = 0;
            for (int i = 0; i < 4; i++) {
                number = number << 8 | byteAt(4 * place + i) & 255;
            }
            return number;
        }
    }

    private static final class Books {
        final int[] kind = new int[BOOKS];
        final int[] length = new int[BOOKS];
        final int[] form = new int[BOOKS];
        final int[] price = new int[BOOKS];
        final int[] place = new int[BOOKS];
        final int[] due = new int[BOOKS];
        final int[] loans = new int[BOOKS];
        final int[] mixed = new int[BOOKS];
        final int[] hadBy = new int[BOOKS];
        final int[] ofKind = new int[KINDS];
        int size;

        int add(int itsKind, int itsLength, int itsForm, int itsPrice) {
            if (size >= BOOKS) {
                return NONE;
            }
            kind[size] = itsKind;
            length[size] = itsLength;
            form[size] = itsForm;
            price[size] = itsPrice;
            place[size] = IN_STORE;
            due[size] = NONE;
            ofKind[itsKind] |= 1 << size;
            size++;
            return size - 1;
        }

        boolean has(int b) {
            return within(b, 0, size - 1);
        }

        int all() {
            return size >= BOOKS ? -1 : (1 << size) - 1;
        }

        boolean wasHad(int b, int r) {
            return hasBit(hadBy[b], r);
        }

        int vanOf(int b) {
            return within(place[b], ON_VAN, ON_VAN + VANS - 1) ? place[b] - ON_VAN : NONE;
        }

        int holder(int b) {
            return within(place[b], WITH_READER, WITH_READER + READERS - 1) ? place[b] - WITH_READER : NONE;
        }

        int lengthOn(int van) {
            int sum = 0;
            for (int b = 0; b < size; b++) {
                if (vanOf(b) == van) {
                    sum += length[b];
                }
            }
            return sum;
        }

        int lengthOf(int set) {
            int sum = 0;
            for (int b = 0; b < size; b++) {
                if (hasBit(set, b)) {
                    sum += length[b];
                }
            }
            return sum;
        }

        int loansOfKind(int which) {
            int sum = 0;
            for (int b = 0; b < size; b++) {
                if (kind[b] == which) {
                    sum += loans[b];
                }
            }
            return sum;
        }
    }

    private static final class Readers {
        final int[] stop = new int[READERS];
        final int[] form = new int[READERS];
        final int[] taste = new int[READERS * KINDS];
        final int[] hadBooks = new int[READERS];
        final int[] out = new int[READERS];
        final int[] loans = new int[READERS];
        final int[] owed = new int[READERS];
        int size;

        int add(int itsStop, int itsForm) {
            if (size >= READERS) {
                return NONE;
            }
            stop[size] = itsStop;
            form[size] = itsForm;
            size++;
            return size - 1;
        }

        boolean has(int r) {
            return within(r, 0, size - 1);
        }
    }

    /** The stops, and which of them a van goes to on a day, as bits: those told by fortnights, and those put there. */
    private static final class Stops {
        final int[] x = new int[STOPS];
        final int[] y = new int[STOPS];
        final int[] halt = new int[STOPS];
        final int[] van = new int[STOPS];
        final int[] rest = new int[STOPS];
        final int[] putDay = new int[STOPS];
        final int[] putVan = new int[STOPS];
        final int[] readers = new int[STOPS];
        final int[] mixed = new int[STOPS];
        final int[] told = new int[VANS * FORTNIGHT];
        final int[] putThere = new int[VANS * DAYS];
        final int[] lostThen = new int[VANS * DAYS];
        int size;
        int lostSize;

        int add(int itsX, int itsY, int itsHalt) {
            if (size >= STOPS) {
                return NONE;
            }
            x[size] = itsX;
            y[size] = itsY;
            halt[size] = itsHalt;
            van[size] = NONE;
            putDay[size] = NONE;
            putVan[size] = NONE;
            size++;
            return size - 1;
        }

        boolean has(int stop) {
            return within(stop, 0, size - 1);
        }

        void tell(int stop, int itsVan, int itsRest) {
            if (van[stop] != NONE) {
                told[van[stop] * FORTNIGHT + rest[stop]] &= ~(1 << stop);
            }
            if (itsVan != NONE) {
                told[itsVan * FORTNIGHT + itsRest] |= 1 << stop;
            }
            van[stop] = itsVan;
            rest[stop] = itsRest;
        }

        /** The stops that have their told visit together with this one. */
        int toldWith(int stop) {
            return van[stop] == NONE ? 0 : told[van[stop] * FORTNIGHT + rest[stop]];
        }

        boolean isLost(int itsVan, int day) {
            return lostThen[itsVan * DAYS + day] != 0;
        }

        void lose(int itsVan, int day) {
            lostThen[itsVan * DAYS + day] = 1;
            lostSize++;
        }

        void forgetPut(int stop) {
            putDay[stop] = NONE;
            putVan[stop] = NONE;
        }

        void keepPut(int stop, int itsVan, int day) {
            putDay[stop] = day;
            putVan[stop] = itsVan;
            putThere[itsVan * DAYS + day] |= 1 << stop;
        }

        int stopsOn(int itsVan, int day) {
            return isLost(itsVan, day) ? 0 : told[itsVan * FORTNIGHT + day % FORTNIGHT] | putThere[itsVan * DAYS + day];
        }

        boolean goesTo(int itsVan, int stop, int day) {
            return hasBit(stopsOn(itsVan, day), stop);
        }

        /** The vans at a stop on a day, as bits. */
        int vansAt(int stop, int day) {
            int set = 0;
            for (int itsVan = 0; itsVan < VANS; itsVan++) {
                if (goesTo(itsVan, stop, day)) {
                    set |= 1 << itsVan;
                }
            }
            return set;
        }

        int lowestVan(int stop, int day) {
            for (int itsVan = 0; itsVan < VANS; itsVan++) {
                if (goesTo(itsVan, stop, day)) {
                    return itsVan;
                }
            }
            return NONE;
        }

        int firstDay(int stop, int from) {
            for (int day = from; day <= LAST_DAY; day++) {
                if (lowestVan(stop, day) != NONE) {
                    return day;
                }
            }
            return NONE;
        }

        int vansWithin(int stop, int firstDay, int lastDay) {
            int set = 0;
            for (int day = firstDay; day <= lastDay; day++) {
                set |= vansAt(stop, day);
            }
            return set;
        }

        /** Two vans at a stop on one day are two visits. */
        int visitsUpTo(int stop, int lastDay) {
            int sum = 0;
            for (int day = 0; day <= lastDay; day++) {
                sum += Integer.bitCount(vansAt(stop, day));
            }
            return sum;
        }
    }

    /** For which day a reader asked for a book; an ask stays, past its day too, until the book is lent or asked for no more. */
    private static final class Asks {
        final int[] days = new int[READERS * BOOKS];
        final int[] waitsFor = new int[READERS];
        final int[] steps = new int[READERS];
        final int[] ring = new int[READERS];
        int size;
        int ringSize;

        Asks() {
            Arrays.fill(days, NONE);
        }

        int dayOf(int r, int b) {
            return days[r * BOOKS + b];
        }

        void add(int r, int b, int day) {
            days[r * BOOKS + b] = day;
            size++;
        }

        boolean remove(int r, int b) {
            if (dayOf(r, b) == NONE) {
                return false;
            }
            days[r * BOOKS + b] = NONE;
            size--;
            return true;
        }

        int ofReader(int r) {
            int sum = 0;
            for (int b = 0; b < BOOKS; b++) {
                if (dayOf(r, b) != NONE) {
                    sum++;
                }
            }
            return sum;
        }

        int booksFor(int r, int day) {
            int set = 0;
            for (int b = 0; b < BOOKS; b++) {
                if (dayOf(r, b) == day) {
                    set |= 1 << b;
                }
            }
            return set;
        }

        boolean isBehindAnother(int r, int b, int today) {
            int day = dayOf(r, b);
            for (int other = 0; other < READERS; other++) {
                int theirs = dayOf(other, b);
                if (other != r && theirs >= today && (theirs < day || (theirs == day && other < r))) {
                    return true;
                }
            }
            return false;
        }

        /** The ring of fewest readers who wait for one another's books: the first of the least start stays. */
        void findRing(Books books, int readers) {
            for (int r = 0; r < readers; r++) {
                waitsFor[r] = awaited(r, books);
            }
            ringSize = 0;
            for (int start = 0; start < readers; start++) {
                int length = shortestFrom(start, readers);
                if (length != NONE && (ringSize == 0 || length < ringSize)) {
                    ringSize = length;
                    tellFrom(start, readers);
                }
            }
        }

        private int awaited(int r, Books books) {
            int set = 0;
            for (int b = 0; b < books.size; b++) {
                int holder = books.holder(b);
                if (holder != NONE && dayOf(r, b) != NONE) {
                    set |= 1 << holder;
                }
            }
            return set;
        }

        /** The length of the shortest ring whose lowest reader is the start; steps tells how far each is from it. */
        private int shortestFrom(int start, int readers) {
            int layer = 1 << start;
            int seen = layer;
            Arrays.fill(steps, NONE);
            for (int step = 1; step < readers && layer != 0; step++) {
                int next = 0;
                for (int r = start + 1; r < readers; r++) {
                    if (!hasBit(seen, r) && (waitsFor[r] & layer) != 0) {
                        next |= 1 << r;
                        steps[r] = step;
                    }
                }
                if ((waitsFor[start] & next) != 0) {
                    return step + 1;
                }
                seen |= next;
                layer = next;
            }
            return NONE;
        }

        private void tellFrom(int start, int readers) {
            ring[0] = start;
            for (int place = 1; place < ringSize; place++) {
                ring[place] = lowestNext(ring[place - 1], ringSize - place, readers);
            }
        }

        private int lowestNext(int r, int step, int readers) {
            for (int next = 0; next < readers; next++) {
                if (hasBit(waitsFor[r], next) && steps[next] == step) {
                    return next;
                }
            }
            return r;
        }
    }

    /** Where each book went, in the order of the acts, with the day from which that is known. */
    private static final class Acts {
        final int[] book = new int[ACTS];
        final int[] place = new int[ACTS];
        final int[] day = new int[ACTS];
        final int[] knownFrom = new int[ACTS];
        int size;
        int delay;

        boolean isFull() {
            return size >= ACTS;
        }

        void add(int b, int to, int today) {
            if (isFull()) {
                return;
            }
            book[size] = b;
            place[size] = to;
            day[size] = today;
            knownFrom[size] = today + delay;
            size++;
        }

        int placeOf(int b, int lastDay, int known) {
            int latest = IN_STORE;
            for (int i = 0; i < size; i++) {
                if (book[i] == b && day[i] <= lastDay && knownFrom[i] <= known) {
                    latest = place[i];
                }
            }
            return latest;
        }
    }

    /** The clauses as a row of steps for a stack, so that a question walks through them without reading the text again. */
    private static final class Law {
        final int[] step = new int[TEXT];
        final int[] value = new int[TEXT];
        final int[] letter = new int[CLAUSES];
        final int[] sumFrom = new int[CLAUSES];
        final int[] testFrom = new int[CLAUSES];
        final int[] end = new int[CLAUSES];
        final int[] stack = new int[STACK];
        int size;
        int clauses;
        int depth;
        boolean refused;

        void clear() {
            size = 0;
            clauses = 0;
        }

        void emit(int itsStep, int itsValue) {
            if (size < TEXT) {
                step[size] = itsStep;
                value[size] = itsValue;
                size++;
            }
        }

        void aimHere(int jump) {
            if (within(jump, 0, TEXT - 1)) {
                value[jump] = size;
            }
        }

        /** What the first clause of a letter whose test holds says, or the given one if there is none. */
        int answer(int which, int[] facts, int none) {
            for (int i = 0; i < clauses; i++) {
                if (letter[i] == which && run(testFrom[i], end[i], facts) != 0) {
                    return run(sumFrom[i], testFrom[i], facts);
                }
            }
            return none;
        }

        /** Answers 0 for what is refused: a test then does not hold, and a sum is 0. */
        private int run(int from, int to, int[] facts) {
            int at = from;
            depth = 0;
            refused = false;
            for (int i = 0; i < TEXT && at < to && !refused; i++) {
                int next = at + 1;
                switch (step[at]) {
                    case NUMBER:
                        push(value[at]);
                        break;
                    case LETTER:
                        push(facts[value[at]]);
                        break;
                    case NOT:
                        push(1 - pop());
                        break;
                    case JUMP_IF_NOT:
                        next = jump(at, false);
                        break;
                    case JUMP_IF:
                        next = jump(at, true);
                        break;
                    default:
                        int right = pop();
                        push(reckon(step[at], pop(), right));
                        break;
                }
                at = next;
            }
            return refused || depth != 1 ? 0 : stack[0];
        }

        /** A jump keeps the truth that decided it; else the next piece gives a new one. */
        private int jump(int at, boolean on) {
            int truth = pop();
            if ((truth != 0) == on) {
                push(truth);
                return value[at];
            }
            return at + 1;
        }

        private int reckon(int sign, int left, int right) {
            switch (sign) {
                case '+':
                    return left + right;
                case '-':
                    return left - right;
                case '*':
                    return left * right;
                case '<':
                    return left < right ? 1 : 0;
                case '>':
                    return left > right ? 1 : 0;
                case '=':
                    return left == right ? 1 : 0;
                default:
                    break;
            }
            if (right == 0) {
                refused = true;
                return 0;
            }
            return sign == '/' ? left / right : left % right;
        }

        private void push(int number) {
            if (depth >= STACK) {
                refused = true;
                return;
            }
            stack[depth] = number;
            depth++;
        }

        private int pop() {
            if (depth < 1) {
                refused = true;
                return 0;
            }
            depth--;
            return stack[depth];
        }
    }

    /** Reads the law's text from the left; each method reads one thing and answers whether it could. */
    private static final class LawReading {
        final int[] text;
        final int end;
        final Law law;
        int at;
        int fault;

        LawReading(int[] itsText, int itsEnd, Law itsLaw) {
            text = itsText;
            end = Math.min(itsEnd, itsText.length);
            law = itsLaw;
        }

        /** 0, or a fault: 1000 times its number, and its place. */
        int read() {
            boolean more = readClause();
            for (int i = 0; i < TEXT && more && at < end; i++) {
                more = expect(';') && readClause();
            }
            return fault;
        }

        private int sign() {
            return at < end ? text[at] : NONE;
        }

        private boolean fail(int number) {
            fault = 1000 * number + at;
            return false;
        }

        private boolean expect(int sign) {
            if (sign() != sign) {
                return fail(FAULT_SIGN);
            }
            at++;
            return true;
        }

        /** Takes one of ( [ ! if no six of them are open around it. */
        private boolean open(int around) {
            if (around >= OPEN_MOST) {
                return fail(FAULT_OPEN);
            }
            at++;
            return true;
        }

        private boolean readClause() {
            int letter = sign();
            if (letter != 'w' && letter != 'd' && letter != 'f') {
                return fail(FAULT_SIGN);
            }
            int number = law.clauses;
            if (number >= CLAUSES) {
                return fail(FAULT_CLAUSE);
            }
            at++;
            law.letter[number] = letter;
            law.sumFrom[number] = law.size;
            if (!readSum(0)) {
                return false;
            }
            law.testFrom[number] = law.size;
            if (!expect('(') || !readTest(1) || !expect(')')) {
                return false;
            }
            law.end[number] = law.size;
            law.clauses++;
            return true;
        }

        private boolean readTest(int around) {
            boolean well = readPart(around);
            for (int i = 0; i < TEXT && well && sign() == '|'; i++) {
                int jump = law.size;
                at++;
                law.emit(JUMP_IF, 0);
                well = readPart(around);
                law.aimHere(jump);
            }
            return well;
        }

        private boolean readPart(int around) {
            boolean well = readPiece(around);
            for (int i = 0; i < TEXT && well && sign() == '&'; i++) {
                int jump = law.size;
                at++;
                law.emit(JUMP_IF_NOT, 0);
                well = readPiece(around);
                law.aimHere(jump);
            }
            return well;
        }

        private boolean readPiece(int around) {
            int first = sign();
            if (first == '!') {
                boolean well = open(around) && readPiece(around + 1);
                law.emit(NOT, 0);
                return well;
            }
            if (first == '(') {
                return open(around) && readTest(around + 1) && expect(')');
            }
            if (!readSum(around)) {
                return false;
            }
            int middle = sign();
            if (middle != '<' && middle != '>' && middle != '=') {
                return fail(FAULT_SIGN);
            }
            at++;
            boolean well = readSum(around);
            law.emit(middle, 0);
            return well;
        }

        private boolean readSum(int around) {
            boolean well = readTerm(around);
            for (int i = 0; i < TEXT && well && (sign() == '+' || sign() == '-'); i++) {
                int between = sign();
                at++;
                well = readTerm(around);
                law.emit(between, 0);
            }
            return well;
        }

        private boolean readTerm(int around) {
            boolean well = readFactor(around);
            for (int i = 0; i < TEXT && well && (sign() == '*' || sign() == '/' || sign() == '%'); i++) {
                int between = sign();
                at++;
                well = readFactor(around);
                law.emit(between, 0);
            }
            return well;
        }

        private boolean readFactor(int around) {
            int first = sign();
            if (first == '[') {
                return open(around) && readSum(around + 1) && expect(']');
            }
            if (isDigit(first)) {
                return readNumber();
            }
            if (!isFact(first)) {
                return fail(FAULT_SIGN);
            }
            at++;
            law.emit(LETTER, first);
            return true;
        }

        private boolean readNumber() {
            int number = 0;
            for (int digits = 0; digits <= DIGITS_MOST && isDigit(sign()); digits++) {
                if (digits == DIGITS_MOST) {
                    return fail(FAULT_DIGIT);
                }
                number = number * 10 + sign() - '0';
                at++;
            }
            law.emit(NUMBER, number);
            return true;
        }

        private static boolean isDigit(int sign) {
            return within(sign, '0', '9');
        }

        private static boolean isFact(int sign) {
            switch (sign) {
                case 't':
                case 'k':
                case 'l':
                case 'f':
                case 'p':
                case 'n':
                case 'h':
                case 's':
                case 'b':
                case 'y':
                case 'x':
                case 'r':
                    return true;
                default:
                    return false;
            }
        }
    }

    /** What the law says of a reader and a book. */
    private static final class Wishes {
        final Books books;
        final Readers readers;
        final Stops stops;
        final int[] facts = new int[SIGNS];
        Law law = new Law();

        Wishes(Books itsBooks, Readers itsReaders, Stops itsStops) {
            books = itsBooks;
            readers = itsReaders;
            stops = itsStops;
        }

        int wish(int r, int b, boolean again, int today) {
            boolean isHad = !again && books.wasHad(b, r);
            boolean isOtherForm = readers.form[r] != 0 && readers.form[r] != books.form[b];
            if (isHad || isOtherForm) {
                return 0;
            }
            look(r, b, 0, today);
            return bounded(law.answer('w', facts, 0), 0, MUCH_MOST);
        }

        int daysLent(int r, int b, int today) {
            look(r, b, 0, today);
            return bounded(law.answer('d', facts, 14), 1, 60);
        }

        int fine(int holder, int b, int today) {
            look(holder, b, Math.max(0, today - books.due[b]), today);
            return bounded(law.answer('f', facts, 0), 0, 10000);
        }

        private static int bounded(int value, int low, int high) {
            return Math.max(low, Math.min(high, value));
        }

        private void look(int r, int b, int late, int today) {
            int kind = books.kind[b];
            int stop = readers.stop[r];
            facts['t'] = readers.taste[r * KINDS + kind];
            facts['k'] = kind;
            facts['l'] = books.length[b];
            facts['f'] = books.form[b];
            facts['p'] = books.price[b];
            facts['n'] = Integer.bitCount(readers.hadBooks[r] & books.ofKind[kind]);
            facts['h'] = readers.out[r];
            facts['s'] = stop;
            facts['b'] = b;
            facts['y'] = today;
            facts['x'] = late;
            facts['r'] = Integer.bitCount(books.hadBy[b] & stops.readers[stop]);
        }
    }

    /** Shortest ways from the depot through a set of stops and home. */
    private static final class Rounds {
        /** The depot stands behind the places of a round's stops. */
        private static final int WIDTH = ROUND_MOST + 1;

        final Stops stops;
        final int[] row = new int[ROUND_MOST];
        final int[] ways = new int[WIDTH * WIDTH];
        final int[] homeward = new int[(1 << ROUND_MOST) * WIDTH];
        int size;
        int minutesPerMile = 2;

        Rounds(Stops itsStops) {
            stops = itsStops;
        }

        /** The miles of the best round; row keeps its stops by numbers for stopAt. */
        int shortest(int set) {
            size = 0;
            if (Integer.bitCount(set) > ROUND_MOST) {
                return UNTOLD;
            }
            for (int stop = 0; stop < stops.size && size < ROUND_MOST; stop++) {
                if (hasBit(set, stop)) {
                    row[size] = stop;
                    size++;
                }
            }
            measureWays();
            int all = (1 << size) - 1;
            for (int ahead = 0; ahead < all; ahead++) {
                for (int from = 0; from < size; from++) {
                    if (!hasBit(ahead, from)) {
                        homeward[ahead * WIDTH + from] = shortestHome(ahead, from);
                    }
                }
            }
            homeward[all * WIDTH + size] = shortestHome(all, size);
            return homeward[all * WIDTH + size];
        }

        /** The stop at a place of the round that shortest found last: the lowest with which the rest is as short. */
        int stopAt(int place) {
            int ahead = (1 << size) - 1;
            int from = size;
            if (place >= size) {
                return NONE;
            }
            for (int i = 0; i <= place; i++) {
                int next = nextHome(ahead, from);
                ahead &= ~(1 << next);
                from = next;
            }
            return row[from];
        }

        int minutes(int set, int miles) {
            int sum = miles * minutesPerMile;
            for (int stop = 0; stop < stops.size; stop++) {
                if (hasBit(set, stop)) {
                    sum += stops.halt[stop];
                }
            }
            return sum;
        }

        /** By how many miles a round grows with a stop; NONE if it can't be put there. */
        int growth(int set, int stop, int bound) {
            int many = Integer.bitCount(set);
            if (many > ROUND_MOST || (many == ROUND_MOST && !hasBit(set, stop))) {
                return NONE;
            }
            if (hasBit(set, stop)) {
                return 0;
            }
            int larger = set | 1 << stop;
            int miles = shortest(larger);
            return minutes(larger, miles) > bound ? NONE : miles - shortest(set);
        }

        private int shortestHome(int ahead, int from) {
            if (ahead == 0) {
                return ways[from * WIDTH + size];
            }
            int next = nextHome(ahead, from);
            return ways[from * WIDTH + next] + homeward[(ahead & ~(1 << next)) * WIDTH + next];
        }

        private int nextHome(int ahead, int from) {
            int best = 0;
            int least = NONE;
            for (int next = 0; next < size; next++) {
                if (hasBit(ahead, next)) {
                    int miles = ways[from * WIDTH + next] + homeward[(ahead & ~(1 << next)) * WIDTH + next];
                    if (least == NONE || miles < least) {
                        best = next;
                        least = miles;
                    }
                }
            }
            return best;
        }

        private void measureWays() {
            for (int from = 0; from <= size; from++) {
                for (int to = 0; to <= size; to++) {
                    ways[from * WIDTH + to] = Math.abs(xOf(from) - xOf(to)) + Math.abs(yOf(from) - yOf(to));
                }
            }
        }

        private int xOf(int place) {
            return place < size ? stops.x[row[place]] : 0;
        }

        private int yOf(int place) {
            return place < size ? stops.y[row[place]] : 0;
        }
    }

    /** Who can be served by which books: each reader by one book that they want, each book for one reader. */
    private static final class Serving {
        final int[] book = new int[LOAD_MOST];
        final int[] wanters = new int[LOAD_MOST];
        final int[] length = new int[LOAD_MOST];
        final int[] kind = new int[LOAD_MOST];
        final int[] most = new int[1 << LOAD_MOST];
        final int[] wanted = new int[READERS];
        final int[] takenBy = new int[BOOKS];
        int size;
        int must;
        int setLength;
        int setKinds;
        int best;
        int bestServed;
        int bestLength;
        int seen;

        void clear() {
            size = 0;
            must = 0;
        }

        /** Offers a book for the load; books come by numbers. */
        void offer(int b, int itsWanters, boolean isMust, Books books) {
            if (size >= LOAD_MOST) {
                return;
            }
            book[size] = b;
            wanters[size] = itsWanters;
            length[size] = books.length[b];
            kind[size] = books.kind[b];
            if (isMust) {
                must |= 1 << size;
            }
            size++;
        }

        /** Sets come by numbers, so of like ones the least stays. */
        boolean choose(int shelf, int kinds) {
            int all = (1 << size) - 1;
            int needed = kinds & kindsOffered();
            best = NONE;
            for (int set = 0; set <= all; set++) {
                weigh(set);
                boolean isFit = setLength <= shelf && (set & must) == must && (setKinds & needed) == needed;
                if (isFit && isBetter(most[set])) {
                    best = set;
                    bestServed = most[set];
                    bestLength = setLength;
                }
            }
            return best != NONE;
        }

        private boolean isBetter(int served) {
            return best == NONE || served > bestServed || (served == bestServed && setLength < bestLength);
        }

        private int kindsOffered() {
            int kinds = 0;
            for (int i = 0; i < size; i++) {
                kinds |= 1 << kind[i];
            }
            return kinds;
        }

        /**
         * By Hall's theorem a set serves the least, over its parts, of the readers who want a book of the part and
         * the books outside it: either all who want a book of the set, or one more than the set without some book.
         */
        private void weigh(int set) {
            int all = 0;
            int least = READERS;
            setLength = 0;
            setKinds = 0;
            for (int i = 0; i < size; i++) {
                if (hasBit(set, i)) {
                    all |= wanters[i];
                    least = Math.min(least, most[set & ~(1 << i)] + 1);
                    setLength += length[i];
                    setKinds |= 1 << kind[i];
                }
            }
            most[set] = Math.min(least, Integer.bitCount(all));
        }

        int bestBooks() {
            int set = 0;
            for (int i = 0; i < size; i++) {
                if (hasBit(best, i)) {
                    set |= 1 << book[i];
                }
            }
            return set;
        }

        /** How many readers can be served by what is wanted of each. */
        int mostReaders() {
            int sum = 0;
            Arrays.fill(takenBy, NONE);
            for (int r = 0; r < READERS; r++) {
                seen = 0;
                if (canServe(r, 0)) {
                    sum++;
                }
            }
            return sum;
        }

        /** Whether a reader can get a book, others changing theirs for it; each deeper call is for another reader. */
        private boolean canServe(int r, int depth) {
            if (depth > READERS) {
                return false;
            }
            for (int b = 0; b < BOOKS; b++) {
                if (hasBit(wanted[r], b) && !hasBit(seen, b)) {
                    seen |= 1 << b;
                    if (takenBy[b] == NONE || canServe(takenBy[b], depth + 1)) {
                        takenBy[b] = r;
                        return true;
                    }
                }
            }
            return false;
        }
    }
}
