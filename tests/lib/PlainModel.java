import java.util.ArrayList;
import java.util.HashMap;
import java.util.HashSet;
import java.util.List;
import java.util.Map;
import java.util.Set;
import java.util.TreeSet;

/** VanShelves once more, as plainly and slowly as the document's words allow, to be compared with it. */
final class PlainModel {
  static final int NONE = -1;

  static final class Book { int kind, length, form, price, place, due = NONE, lent, mixed; }
  static final class Stop { int x, y, halt, van = NONE, day, putDay = NONE, putVan = NONE, mixed; }
  static final class Reader {
    int stop, form, loans, owed;
    int[] taste = new int[8];
    Set<Integer> had = new TreeSet<>();
    Map<Integer, Integer> asks = new HashMap<>();
  }
  record Act(int book, int place, int day, int known) { }
  record Lost(int van, int day) { }
  record Put(int stop, int van, int day) { }

  int now, pace = 2, delay;
  List<Book> books = new ArrayList<>();
  List<Stop> stops = new ArrayList<>();
  List<Reader> readers = new ArrayList<>();
  List<Act> acts = new ArrayList<>();
  Set<Lost> lostDays = new HashSet<>();
  Set<Put> puts = new HashSet<>();
  int[] shelf = {30, 30, 30};
  int[] vanLoans = new int[3];
  List<Integer> tape = new ArrayList<>();
  PlainLaw law = new PlainLaw("");

  static boolean in(int v, int a, int b) { return a <= v && v <= b; }
  boolean isB(int b) { return in(b, 0, books.size() - 1); }
  boolean isS(int s) { return in(s, 0, stops.size() - 1); }
  boolean isR(int r) { return in(r, 0, readers.size() - 1); }
  static boolean isV(int v) { return in(v, 0, 2); }
  static boolean isD(int d) { return in(d, 0, 199); }

  boolean now(int day) {
    if (day < now || day > 199) return false;
    now = day;
    return true;
  }

  int book(int kind, int length, int form, int price) {
    if (!in(kind, 0, 7) || !in(length, 1, 9) || !in(form, 0, 2) || !in(price, 0, 1000) || books.size() == 32) return NONE;
    Book b = new Book();
    b.kind = kind; b.length = length; b.form = form; b.price = price;
    books.add(b);
    return books.size() - 1;
  }

  int onVan(int van) {
    int sum = 0;
    for (Book b : books) if (b.place == van + 1) sum += b.length;
    return sum;
  }

  boolean shelf(int van, int length) {
    if (!isV(van) || !in(length, 0, 99) || onVan(van) > length) return false;
    shelf[van] = length;
    return true;
  }

  int stop(int x, int y, int halt) {
    if (!in(x, 0, 99) || !in(y, 0, 99) || !in(halt, 1, 200) || stops.size() == 10) return NONE;
    Stop s = new Stop();
    s.x = x; s.y = y; s.halt = halt;
    stops.add(s);
    return stops.size() - 1;
  }

  boolean visit(int stop, int van, int day) {
    if (!isS(stop) || !in(van, -1, 2) || !in(day, 0, 13)) return false;
    stops.get(stop).van = van;
    stops.get(stop).day = day;
    return true;
  }

  int reader(int stop, int form) {
    if (!isS(stop) || !in(form, 0, 2) || readers.size() == 16) return NONE;
    Reader r = new Reader();
    r.stop = stop; r.form = form;
    readers.add(r);
    return readers.size() - 1;
  }

  boolean taste(int reader, int kind, int much) {
    if (!isR(reader) || !in(kind, 0, 7) || !in(much, 0, 9)) return false;
    readers.get(reader).taste[kind] = much;
    return true;
  }

  boolean had(int r, int b) { return isR(r) && isB(b) && readers.get(r).had.add(b); }

  int feed(int a, int b, int c, int d, int e) {
    if (tape.size() + 20 > 400) return NONE;
    for (int v : new int[] {a, b, c, d, e}) for (int k = 3; k >= 0; k--) tape.add(v >> 8 * k & 255);
    return tape.size();
  }

  int law(int n) {
    if (!in(n, 1, 200) || tape.size() < n) return NONE;
    StringBuilder text = new StringBuilder();
    for (int i = 0; i < n; i++) text.append((char) (int) tape.get(i));
    tape.clear();
    int fault = PlainLaw.fault(text.toString());
    if (fault != 0) return fault;
    law = new PlainLaw(text.toString());
    return law.clauses.size();
  }

  int out(int r) {
    int n = 0;
    for (Book b : books) if (b.place == 10 + r) n++;
    return n;
  }

  Map<Character, Integer> facts(int r, int b, int late) {
    Reader reader = readers.get(r);
    Book book = books.get(b);
    int n = 0;
    for (int had : reader.had) if (books.get(had).kind == book.kind) n++;
    int there = 0;
    for (Reader other : readers) if (other.stop == reader.stop && other.had.contains(b)) there++;
    Map<Character, Integer> f = new HashMap<>();
    f.put('t', reader.taste[book.kind]); f.put('k', book.kind); f.put('l', book.length); f.put('f', book.form);
    f.put('p', book.price); f.put('n', n); f.put('h', out(r)); f.put('s', reader.stop); f.put('b', b);
    f.put('y', now); f.put('x', late); f.put('r', there);
    return f;
  }

  int wants(int r, int b, boolean again) {
    if (!isR(r) || !isB(b)) return NONE;
    Reader reader = readers.get(r);
    if (!again && reader.had.contains(b)) return 0;
    if (reader.form > 0 && reader.form != books.get(b).form) return 0;
    return Math.min(1000, Math.max(0, law.answer('w', facts(r, b, 0), 0)));
  }

  boolean goes(int v, int stop, int day) {
    if (lostDays.contains(new Lost(v, day))) return false;
    Stop s = stops.get(stop);
    return (s.van == v && day % 14 == s.day) || puts.contains(new Put(stop, v, day));
  }

  boolean visited(int stop, int day) { return goes(0, stop, day) || goes(1, stop, day) || goes(2, stop, day); }

  int visits(int v, int stop, int day) {
    if (!isV(v) || !isS(stop) || !isD(day)) return NONE;
    return goes(v, stop, day) ? 1 : 0;
  }

  void act(int b, int place) {
    books.get(b).place = place;
    acts.add(new Act(b, place, now, now + delay));
  }

  boolean move(int b, int van) {
    if (!isB(b) || !in(van, -1, 2) || acts.size() == 200) return false;
    Book book = books.get(b);
    if (book.place > 3 || book.place == van + 1) return false;
    if (van >= 0 && onVan(van) + book.length > shelf[van]) return false;
    act(b, van + 1);
    return true;
  }

  int lend(int b, int r) {
    if (!isB(b) || !isR(r) || acts.size() == 200) return NONE;
    Book book = books.get(b);
    Reader reader = readers.get(r);
    if (!in(book.place, 1, 3) || !goes(book.place - 1, reader.stop, now)) return NONE;
    int due = now + Math.min(60, Math.max(1, law.answer('d', facts(r, b, 0), 14)));
    vanLoans[book.place - 1]++;
    act(b, 10 + r);
    book.due = due;
    book.lent++;
    reader.loans++;
    reader.had.add(b);
    reader.asks.remove(b);
    return due;
  }

  boolean isOut(int b) { return in(books.get(b).place, 10, 25); }

  int back(int b, int van, int r) {
    if (!isB(b) || !isV(van) || !isR(r) || acts.size() == 200 || !isOut(b)) return NONE;
    Book book = books.get(b);
    if (!goes(van, readers.get(r).stop, now) || onVan(van) + book.length > shelf[van]) return NONE;
    int who = book.place - 10;
    int late = now > book.due ? now - book.due : 0;
    int fine = Math.min(10000, Math.max(0, law.answer('f', facts(who, b, late), 0)));
    readers.get(who).owed += fine;
    if (who != r) {
      book.mixed++;
      stops.get(readers.get(r).stop).mixed++;
    }
    book.due = NONE;
    act(b, van + 1);
    return fine;
  }

  int lost(int b) {
    if (!isB(b) || acts.size() == 200 || !isOut(b)) return NONE;
    Book book = books.get(b);
    readers.get(book.place - 10).owed += book.price;
    book.due = NONE;
    act(b, 40);
    return book.price;
  }

  int bookIs(int b, int what) {
    if (!isB(b) || !in(what, 0, 4)) return NONE;
    Book book = books.get(b);
    if (what == 4) {
      int n = 0;
      for (Reader r : readers) if (r.had.contains(b)) n++;
      return n;
    }
    return new int[] {book.place, book.due, book.lent, book.mixed}[what];
  }

  int readerIs(int r, int what) {
    if (!isR(r) || !in(what, 0, 4)) return NONE;
    Reader reader = readers.get(r);
    return new int[] {out(r), reader.loans, reader.owed, reader.had.size(), reader.asks.size()}[what];
  }

  int pays(int r, int pence) {
    if (!isR(r) || pence < 1 || pence > readers.get(r).owed) return NONE;
    return readers.get(r).owed -= pence;
  }

  boolean ask(int r, int b, int day) {
    if (!isR(r) || !isB(b) || !in(day, now, 199)) return false;
    Reader reader = readers.get(r);
    if (!visited(reader.stop, day) || reader.asks.containsKey(b) || books.get(b).place == 10 + r) return false;
    reader.asks.put(b, day);
    return true;
  }

  boolean unask(int r, int b) { return isR(r) && isB(b) && readers.get(r).asks.remove(b) != null; }

  long aboard(int day, int van) {
    if (!isD(day) || !isV(van)) return -1;
    long set = 0;
    for (Reader r : readers) {
      if (!goes(van, r.stop, day)) continue;
      for (Map.Entry<Integer, Integer> ask : r.asks.entrySet()) if (ask.getValue() == day) set |= 1L << ask.getKey();
    }
    return set;
  }

  boolean couldBeThere(int b, int stop, int day) {
    Book book = books.get(b);
    if (book.place == 40) return false;
    if (book.place == 0) return true;
    if (book.place <= 3) return day > now || goes(book.place - 1, stop, day);
    int theirs = readers.get(book.place - 10).stop;
    int from = book.due < now ? now : book.due;
    while (from < 200 && !visited(theirs, from)) from++;
    if (from >= 200) return false;
    return day > from || (day == from && theirs == stop);
  }

  int promise(int r, int b) {
    if (!isR(r) || !isB(b)) return NONE;
    int stop = readers.get(r).stop;
    for (int day = now; day < 200; day++) if (visited(stop, day) && couldBeThere(b, stop, day)) return day;
    return -2;
  }

  int whyNot(int r, int b) {
    if (!isR(r) || !isB(b)) return NONE;
    Integer day = readers.get(r).asks.get(b);
    if (day == null || day < now) return NONE;
    Book book = books.get(b);
    int stop = readers.get(r).stop;
    if (book.place == 40) return 1;
    if (!visited(stop, day)) return 2;
    if (isOut(b) && (promise(r, b) > day || promise(r, b) == -2)) return 3;
    if (day == now && in(book.place, 1, 3) && !goes(book.place - 1, stop, now)) return 4;
    for (int o = 0; o < readers.size(); o++) {
      Integer theirs = readers.get(o).asks.get(b);
      if (o == r || theirs == null || theirs < now) continue;
      if (theirs < day || (theirs.equals(day) && o < r)) return 5;
    }
    int van = goes(0, stop, day) ? 0 : goes(1, stop, day) ? 1 : 2;
    int sum = 0;
    for (int i = 0; i < books.size(); i++) if ((aboard(day, van) >> i & 1) == 1) sum += books.get(i).length;
    return sum > shelf[van] ? 6 : 0;
  }

  boolean awaits(int r, int other) {
    for (int b : readers.get(r).asks.keySet()) if (books.get(b).place == 10 + other) return true;
    return false;
  }

  /** The first ring in the order of rows, of just so many readers, or null. */
  List<Integer> ringOf(List<Integer> row, int many) {
    int last = row.get(row.size() - 1);
    if (row.size() == many) return awaits(last, row.get(0)) ? row : null;
    for (int next = row.get(0) + 1; next < readers.size(); next++) {
      if (row.contains(next) || !awaits(last, next)) continue;
      List<Integer> longer = new ArrayList<>(row);
      longer.add(next);
      List<Integer> found = ringOf(longer, many);
      if (found != null) return found;
    }
    return null;
  }

  int ring(int what) {
    List<Integer> found = null;
    for (int many = 2; many <= readers.size() && found == null; many++) {
      for (int start = 0; start < readers.size() && found == null; start++) found = ringOf(List.of(start), many);
    }
    if (what == NONE) return found == null ? 0 : found.size();
    return found == null || !in(what, 0, found.size() - 1) ? NONE : found.get(what);
  }

  boolean serve(int r, List<List<Integer>> wanted, int[] owner, Set<Integer> seen) {
    for (int b : wanted.get(r)) {
      if (!seen.add(b)) continue;
      if (owner[b] < 0 || serve(owner[b], wanted, owner, seen)) {
        owner[b] = r;
        return true;
      }
    }
    return false;
  }

  int served(int van, long set, int much) {
    if (!isV(van) || !in(much, 1, 1000) || set < 0 || set >= 1L << books.size()) return NONE;
    List<List<Integer>> wanted = new ArrayList<>();
    for (int r = 0; r < readers.size(); r++) {
      List<Integer> row = new ArrayList<>();
      if (goes(van, readers.get(r).stop, now)) {
        for (int b = 0; b < books.size(); b++) if ((set >> b & 1) == 1 && wants(r, b, false) >= much) row.add(b);
      }
      wanted.add(row);
    }
    int[] owner = new int[32];
    java.util.Arrays.fill(owner, -1);
    int sum = 0;
    for (int r = 0; r < readers.size(); r++) if (serve(r, wanted, owner, new HashSet<>())) sum++;
    return sum;
  }

  long load(int van, int much, int kinds, int what) {
    if (!isV(van) || !in(much, 1, 1000) || !in(kinds, 0, 255) || !in(what, 0, 2)) return -1;
    List<Integer> row = new ArrayList<>();
    for (int b = 0; b < books.size() && row.size() < 12; b++) {
      int place = books.get(b).place;
      if (place != 0 && place != van + 1) continue;
      boolean some = (aboard(now, van) >> b & 1) == 1;
      for (int r = 0; r < readers.size(); r++) some |= goes(van, readers.get(r).stop, now) && wants(r, b, false) >= much;
      if (some) row.add(b);
    }
    long best = -1;
    int bestServed = 0, bestLength = 0;
    for (int pick = 0; pick < 1 << row.size(); pick++) {
      long set = 0;
      int length = 0, kindsHere = 0, kindsAll = 0;
      boolean fits = true;
      for (int i = 0; i < row.size(); i++) {
        int b = row.get(i);
        kindsAll |= 1 << books.get(b).kind;
        if ((pick >> i & 1) == 1) {
          set |= 1L << b;
          length += books.get(b).length;
          kindsHere |= 1 << books.get(b).kind;
        } else if ((aboard(now, van) >> b & 1) == 1) {
          fits = false;
        }
      }
      if ((kinds & kindsAll & ~kindsHere) != 0) fits = false;
      if (!fits || length > shelf[van]) continue;
      int served = served(van, set, much);
      if (best < 0 || served > bestServed || (served == bestServed && (length < bestLength || (length == bestLength && set < best)))) {
        best = set;
        bestServed = served;
        bestLength = length;
      }
    }
    if (best < 0) return -2;
    return what == 0 ? best : what == 1 ? bestServed : bestLength;
  }

  int least(int what) {
    int best = -1, bestVisits = 0;
    for (int r = 0; r < readers.size(); r++) {
      int visits = 0;
      for (int d = 0; d <= now; d++) for (int v = 0; v < 3; v++) if (goes(v, readers.get(r).stop, d)) visits++;
      if (visits == 0) continue;
      if (best < 0 || (double) readers.get(r).loans / visits < (double) readers.get(best).loans / bestVisits - 1e-9) {
        best = r;
        bestVisits = visits;
      }
    }
    if (best < 0 || !in(what, 0, 2)) return NONE;
    return what == 0 ? best : what == 1 ? readers.get(best).loans : bestVisits;
  }

  int wanting(int van, int b, int much) {
    int n = 0;
    for (int r = 0; r < readers.size(); r++) {
      if (stops.get(readers.get(r).stop).van == van && wants(r, b, false) >= much) n++;
    }
    return n;
  }

  long dull(int van, int much) {
    if (!isV(van) || !in(much, 1, 1000)) return -1;
    long set = 0;
    for (int b = 0; b < books.size(); b++) if (books.get(b).place == van + 1 && wanting(van, b, much) == 0) set |= 1L << b;
    return set;
  }

  int onward(int b, int much) {
    if (!isB(b) || !in(much, 1, 1000)) return NONE;
    int best = -2, most = 0;
    for (int v = 0; v < 3; v++) {
      if (wanting(v, b, much) > most) {
        most = wanting(v, b, much);
        best = v;
      }
    }
    return best;
  }

  int different(int stop, int day) {
    if (!isS(stop) || !isD(day)) return NONE;
    Set<Integer> vans = new HashSet<>();
    for (int d = day; d < day + 14 && d < 200; d++) for (int v = 0; v < 3; v++) if (goes(v, stop, d)) vans.add(v);
    if (vans.isEmpty()) return NONE;
    int n = 0;
    for (int b = 0; b < books.size(); b++) {
      if (!vans.contains(books.get(b).place - 1)) continue;
      boolean had = false;
      for (Reader r : readers) had |= r.stop == stop && r.had.contains(b);
      if (!had) n++;
    }
    return n;
  }

  boolean pace(int minutes) {
    if (!in(minutes, 1, 9)) return false;
    pace = minutes;
    return true;
  }

  List<Integer> on(int van, int day) {
    List<Integer> row = new ArrayList<>();
    for (int s = 0; s < stops.size(); s++) if (goes(van, s, day)) row.add(s);
    return row;
  }

  /** Miles, then the stops of the best round; null if none is told. */
  private final Map<List<Integer>, List<Integer>> rounds = new HashMap<>();

  List<Integer> best(List<Integer> set) {
    if (set.size() > 8) return null;
    if (!rounds.containsKey(set)) {
      best = null;
      tryRounds(new ArrayList<>(), set, 0, 0, 0);
      rounds.put(set, best);
    }
    return rounds.get(set);
  }

  private List<Integer> best;

  private void tryRounds(List<Integer> row, List<Integer> set, int x, int y, int miles) {
    if (best != null && miles >= best.get(0)) {
      if (!(miles == 0 && set.isEmpty())) return;
    }
    if (row.size() == set.size()) {
      int all = miles + x + y;
      if (best == null || all < best.get(0)) {
        best = new ArrayList<>(row);
        best.add(0, all);
      }
      return;
    }
    for (int s : set) {
      if (row.contains(s)) continue;
      Stop stop = stops.get(s);
      row.add(s);
      tryRounds(row, set, stop.x, stop.y, miles + Math.abs(x - stop.x) + Math.abs(y - stop.y));
      row.remove(row.size() - 1);
    }
  }

  int minutes(List<Integer> set) {
    int sum = best(set).get(0) * pace;
    for (int s : set) sum += stops.get(s).halt;
    return sum;
  }

  int round(int van, int day, int what) {
    if (!isV(van) || !isD(day) || !in(what, -1, 8)) return NONE;
    List<Integer> set = on(van, day);
    List<Integer> round = best(set);
    if (round == null) return -2;
    if (what == NONE) return round.get(0);
    if (what == 8) return minutes(set);
    return what < set.size() ? round.get(1 + what) : NONE;
  }

  int loansOf(int stop) {
    int n = 0;
    for (Reader r : readers) if (r.stop == stop) n += r.loans;
    return n;
  }

  int readersOf(int stop) {
    int n = 0;
    for (Reader r : readers) if (r.stop == stop) n++;
    return n;
  }

  int went(int stop, int what) {
    if (!isS(stop) || !in(what, 0, 2)) return NONE;
    if (what == 1) return readersOf(stop);
    if (what == 2) return loansOf(stop);
    Stop it = stops.get(stop);
    if (it.van == NONE) return 0;
    List<Integer> with = new ArrayList<>(), without = new ArrayList<>();
    for (int s = 0; s < stops.size(); s++) {
      if (stops.get(s).van != it.van || stops.get(s).day != it.day) continue;
      with.add(s);
      if (s != stop) without.add(s);
    }
    return best(with) == null ? -2 : best(with).get(0) - best(without).get(0);
  }

  int lostDay(int van, int day, int n, int minutes) {
    if (!isV(van) || !in(day, now, 199) || !in(n, 1, 28) || !in(minutes, 1, 1000)) return NONE;
    if (lostDays.contains(new Lost(van, day))) return NONE;
    List<Integer> would = on(van, day);
    lostDays.add(new Lost(van, day));
    int count = 0;
    for (int s : would) {
      Stop stop = stops.get(s);
      stop.putDay = NONE;
      stop.putVan = NONE;
      int least = Integer.MAX_VALUE;
      for (int d = day + 1; d <= day + n && d < 200; d++) {
        for (int v = 0; v < 3; v++) {
          List<Integer> have = on(v, d);
          if (lostDays.contains(new Lost(v, d)) || have.size() > 8) continue;
          int growth = 0;
          if (!have.contains(s)) {
            List<Integer> with = new ArrayList<>(new TreeSet<>(have));
            with.add(s);
            with = new ArrayList<>(new TreeSet<>(with));
            if (have.size() >= 8 || minutes(with) > minutes) continue;
            growth = best(with).get(0) - best(have).get(0);
          }
          if (growth < least) {
            least = growth;
            stop.putDay = d;
            stop.putVan = v;
          }
        }
      }
      if (stop.putDay != NONE) {
        puts.add(new Put(s, stop.putVan, stop.putDay));
        count++;
      }
    }
    return count;
  }

  int put(int stop, int what) {
    if (!isS(stop) || !in(what, 0, 1)) return NONE;
    return what == 0 ? stops.get(stop).putDay : stops.get(stop).putVan;
  }

  boolean knownIn(int days) {
    if (!in(days, 0, 20)) return false;
    delay = days;
    return true;
  }

  int where(int b, int day, int known) {
    if (!isB(b) || !in(day, 0, now) || !in(known, day, 199)) return NONE;
    for (int i = acts.size() - 1; i >= 0; i--) {
      Act a = acts.get(i);
      if (a.book == b && a.day <= day && a.known <= known) return a.place;
    }
    return 0;
  }

  int counts(int what, int i) {
    int n = 0;
    switch (what) {
      case 0: return isS(i) ? loansOf(i) : NONE;
      case 1:
        if (!in(i, 0, 7)) return NONE;
        for (Book b : books) if (b.kind == i) n += b.lent;
        return n;
      case 2: return isV(i) ? vanLoans[i] : NONE;
      case 3:
        if (!isS(i)) return NONE;
        for (Reader r : readers) if (r.stop == i && r.loans > 0) n++;
        return n;
      case 4: return isS(i) ? stops.get(i).mixed : NONE;
      case 5:
        if (i != 0) return NONE;
        for (Reader r : readers) n += r.loans;
        return n;
      default: return NONE;
    }
  }

  int council(int stop, int m) {
    if (!isS(stop) || !in(m, 1, 16)) return NONE;
    return readersOf(stop) < m ? 0 : readersOf(stop);
  }

  int check(int n) {
    if (n < 0 || 12L * n > tape.size()) return -2;
    List<Integer> numbers = new ArrayList<>();
    for (int i = 0; i < 3 * n; i++) {
      int v = 0;
      for (int k = 0; k < 4; k++) v = v * 256 + tape.get(4 * i + k);
      numbers.add(v);
    }
    tape.clear();
    List<Integer> right = new ArrayList<>();
    for (int b = 0; b < books.size(); b++) {
      right.add(b);
      right.add(books.get(b).place);
      right.add(books.get(b).due);
    }
    for (int i = 0; i < numbers.size(); i++) if (i >= right.size() || !numbers.get(i).equals(right.get(i))) return i;
    return numbers.size() < right.size() ? 3 * n : NONE;
  }

  int count(int what) {
    if (in(what, 10, 12)) return onVan(what - 10);
    if (what >= 20) return isS(what - 20) ? readersOf(what - 20) : NONE;
    if (!in(what, 0, 8)) return NONE;
    int asks = 0;
    for (Reader r : readers) asks += r.asks.size();
    return new int[] {now, books.size(), stops.size(), readers.size(), law.clauses.size(), tape.size(), acts.size(), asks,
      lostDays.size()}[what];
  }
}
