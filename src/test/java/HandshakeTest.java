/** Promises 9 and 17: what the collector asks for, how mutators answer, and what a mutator does by its status. */
public final class HandshakeTest {
  private static final Check check = new Check();

  public static void main(String[] args) {
    asksInOrder();
    goesOnOnlyWithBoth();
    asksNothingWhileItTraces();
    rootsAreMarked();
    newCellsByStatus();
    storesMarkByStatus();
    storesMarkWhatIsSeen();
    intsMarkNothing();
    check.end();
  }

  private static void state(QuietSweep q, int phase, int status0, int status1) {
    check.due("phase()", q.phase(), phase);
    check.due("status(0)", q.status(0), status0);
    check.due("status(1)", q.status(1), status1);
  }

  private static void asksInOrder() {
    check.about("promises 9 and 17, a whole cycle without cells");
    QuietSweep q = new QuietSweep(0);
    check.due("4 5 in phase 0", Check.entries(q, "45"), 0);
    state(q, 0, 0, 0);
    check.due("6", Check.entries(q, "6"), 1);
    state(q, 1, 0, 0);
    for (int p = 1; p <= 3; p++) {
      check.due("6 7 before the answers", Check.entries(q, "67"), 0);
      state(q, p, p - 1, p - 1);
      check.due("4 4", Check.entries(q, "44"), 1);
      state(q, p, p, p - 1);
      check.due("6 7 before one answer", Check.entries(q, "67"), 0);
      check.due("5 5", Check.entries(q, "55"), 1);
      state(q, p, p, p);
      check.due("7", Check.entries(q, "7"), 1);
      state(q, p + 1, p, p);
    }
    check.due("6 to the sweep", Check.entries(q, "6"), 1);
    state(q, 5, 3, 3);
    check.due("6 four times", Check.entries(q, "6666"), 4);
    state(q, 6, 3, 3);
    check.due("6 before the answers", Check.entries(q, "66"), 0);
    check.due("5 5", Check.entries(q, "55"), 1);
    state(q, 6, 3, 0);
    check.due("6 before one answer", Check.entries(q, "66"), 0);
    check.due("4 4", Check.entries(q, "44"), 1);
    state(q, 6, 0, 0);
    check.due("cycles()", q.cycles(), 0);
    check.due("6", Check.entries(q, "6"), 1);
    state(q, 0, 0, 0);
    check.due("cycles()", q.cycles(), 1);
  }

  private static void goesOnOnlyWithBoth() {
    check.about("promise 17, one mutator is not enough");
    for (int silent = 0; silent < 2; silent++) {
      QuietSweep q = new QuietSweep(0);
      q.go(6, 1);
      check.due("the other answers", q.repeat(silent == 0 ? 5 : 4, 1), 1);
      check.due("repeat(6, 60)", q.repeat(6, 60), 0);
      check.due("phase()", q.phase(), 1);
      check.due("status(silent)", q.status(silent), 0);
      check.due("status(other)", q.status(1 - silent), 1);
    }
  }

  private static void asksNothingWhileItTraces() {
    check.about("promise 9, nothing is asked in the phases 4 and 5");
    QuietSweep q = Check.loaded(0, "a=*;a.n=x;", "");
    q.repeat(0, 1);
    Check.toPhase(q, 4);
    q.repeat(0, 1);
    check.due("4 5 in phase 4", Check.entries(q, "45"), 0);
    check.due("buffered(0)", q.buffered(0), 1);
    check.due("6 6 6", Check.entries(q, "666"), 3);
    state(q, 5, 3, 3);
    check.due("4 5 in phase 5", Check.entries(q, "45"), 0);
    check.due("buffered(0)", q.buffered(0), 1);
    state(q, 5, 3, 3);
    check.due("6 four times", Check.entries(q, "6666"), 4);
    check.due("4 in phase 6", Check.entries(q, "4"), 1);
    check.due("buffered(0)", q.buffered(0), 0);
    state(q, 6, 0, 3);
  }

  private static void rootsAreMarked() {
    check.about("promises 9 and 14, roots are marked at ROOTS and not before");
    QuietSweep q = Check.loaded(7, "a=*;b=*;c=*;d=*;", "d=*;c=*;b=*;a=*;a=d;");
    q.repeat(0, 60);
    q.repeat(1, 60);
    Check.toPhase(q, 3);
    colours(q, "11111111000");
    check.due("4", Check.entries(q, "4"), 1);
    colours(q, "22221111000");
    check.due("5", Check.entries(q, "5"), 1);
    colours(q, "22222221000");
    check.due("phase()", q.phase(), 3);
  }

  private static void colours(QuietSweep q, String due) {
    for (int cell = 0; cell < due.length(); cell++) {
      check.due("colour(" + cell + ")", q.colour(cell), due.charAt(cell) - '0');
    }
  }

  private static void newCellsByStatus() {
    check.about("promise 14, the colour of a new cell");
    QuietSweep q = Check.loaded(7, "a=*;b=*;c=*;d=*;", "a=*;b=*;c=*;d=*;");
    q.go(6, 1);
    Check.entries(q, "0");
    colours(q, "1000");
    Check.entries(q, "40");
    colours(q, "1100");
    Check.entries(q, "56401");
    colours(q, "1131");
    Check.entries(q, "56450");
    colours(q, "22323");
    Check.entries(q, "61");
    check.due("phase()", q.phase(), 4);
    colours(q, "223233");
    check.about("promise 14, a new cell in the sweep and behind it");
    QuietSweep r = Check.loaded(0, "a=*;b=*;c=*;", "");
    Check.toPhase(r, 5);
    Check.entries(r, "0");
    colours(r, "3000");
    Check.entries(r, "66660");
    check.due("phase()", r.phase(), 6);
    colours(r, "3300");
    Check.entries(r, "40");
    colours(r, "3310");
    Check.entries(r, "56");
    check.due("phase()", r.phase(), 0);
    colours(r, "3310");
    Check.entries(r, "6");
    colours(r, "1110");
  }

  private static void storesMarkByStatus() {
    for (int status = 0; status < 4; status++) {
      for (String store : new String[] {"a.l=b;", "a.r=b;"}) {
        check.about("promise 14, " + store + " with status " + status);
        QuietSweep q = Check.loaded(0, "a=*;b=*;", "");
        q.repeat(0, 2);
        Check.load(q, 0, store);
        Check.toPhase(q, status == 0 ? 1 : status);
        if (status > 0) {
          Check.entries(q, "4");
        }
        check.due("status(0)", q.status(0), status);
        q.repeat(0, 1);
        check.due("colour(0)", q.colour(0), status == 3 ? 2 : 1);
        check.due("colour(1)", q.colour(1), status == 0 ? 1 : 2);
        check.due("buffered(0)", q.buffered(0), 1);
      }
    }
    check.about("promise 14, a store marks no FREE and no BLACK cell");
    QuietSweep r = Check.loaded(0, "a=*;a.l=a;a.r=a;", "");
    Check.toPhase(r, 5);
    r.repeat(0, 3);
    check.due("colour(0)", r.colour(0), 3);
  }

  private static void storesMarkWhatIsSeen() {
    for (String store : new String[] {"a.l=-;", "a.l=c;", "a.l=d;"}) {
      check.about("promise 14, " + store + " marks what was in the field");
      QuietSweep q = Check.loaded(0, "a=*;b=*;c=*;a.l=b;a.r=c;", "");
      q.repeat(0, 60);
      Check.toPhase(q, 2);
      colours(q, "1110");
      Check.load(q, 0, store);
      q.repeat(0, 1);
      colours(q, store.equals("a.l=c;") ? "1220" : "1210");
    }
    check.about("promise 14, r=- marks what was in r");
    QuietSweep r = Check.loaded(0, "a=*;b=*;c=*;a.l=b;a.r=c;", "");
    r.repeat(0, 60);
    Check.toPhase(r, 2);
    Check.load(r, 0, "a.r=-;");
    r.repeat(0, 1);
    colours(r, "1120");

    check.about("promise 14, what is seen is marked, not what is in memory");
    QuietSweep s = Check.loaded(0, "a=*;b=*;c=*;a.l=b;", "");
    s.repeat(0, 60);
    s.repeat(2, 1);
    Check.toPhase(s, 1);
    Check.load(s, 0, "a.l=c;");
    Check.entries(s, "0");
    Check.load(s, 0, "a.l=-;");
    check.due("status(0)", s.status(0), 0);
    check.due("field(0, 0)", s.field(0, 0), 1);
    check.due("seen(0, 0, 0)", s.seen(0, 0, 0), 2);
    Check.entries(s, "40");
    check.due("status(0)", s.status(0), 1);
    colours(s, "1120");
  }

  private static void intsMarkNothing() {
    check.about("promise 14, an int is no cell");
    QuietSweep q = Check.loaded(0, "a=*;b=*;c=*;x=1;a.n=x;x=2;a.n=x;", "");
    q.repeat(0, 4);
    Check.toPhase(q, 2);
    q.repeat(0, 3);
    colours(q, "1110");
    check.due("buffered(0)", q.buffered(0), 2);
  }
}
