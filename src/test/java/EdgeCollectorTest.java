/** The edges of what the collector does (promises 9, 14, 17 to 21): one method for each sentence that names one. */
public final class EdgeCollectorTest {
  private static final Check check = new Check();
  /** From phase 0 to the phase of this index, with every answer; from phase 4 on only if no cell is GREY. */
  private static final String[] TO_PHASE = {"", "6", "6456", "6456456", "6456456456", "64564564566", "645645645666666"};
  private static final int[] NO_CELLS_OF_FOUR = {-1, -2, 4, 5, 11, 31, 32, 33, 36, 64, Integer.MAX_VALUE, Integer.MIN_VALUE};

  public static void main(String[] args) {
    phasesFrom0To6();
    asksForNothing();
    alreadyHasTheStatus();
    answerWithEveryCountOfStores();
    answerOldestFirst();
    rootsOfEveryVariable();
    rootsThatAreNone();
    noRootsBeforeRoots();
    notFreeBecomesWhite();
    bothMutatorsHaveThatStatus();
    noGreyCellAtAll();
    halfScannedComesFirst();
    leastGreyCell();
    fieldsThatAreNoneOrTheCellItself();
    greatestCellIsTraced();
    sweepIsAtCell0EachTime();
    sweepBehindTheLastCell();
    sweepOfWhiteAlone();
    fieldsStayInTheSweep();
    cycleIsCountedAtTheEnd();
    phaseGoesRound();
    colourOfNoCell();
    freeOfNoneAndOfAll();
    reachedOfNoneAndOfAll();
    reachedByStores();
    reachedByNone();
    reachedByInts();
    reachedByMemory();
    reachesNoCell();
    check.end();
  }

  private static void phasesFrom0To6() {
    check.about("phase: 0 .. 6");
    for (int phase = 0; phase <= 6; phase++) {
      check.due("phase()", Check.after(0, "", "", TO_PHASE[phase]).phase(), phase);
    }
  }

  private static void asksForNothing() {
    check.about("in the phases 0, 4 and 5 the collector asks for nothing");
    for (int phase : new int[] {0, 4, 5}) {
      QuietSweep q = Check.after(0, "a=*;a.n=x;", "b=*;b.n=x;", TO_PHASE[phase] + "0011");
      String before = Check.state(q);
      check.due("4 5 in phase " + phase, Check.entries(q, "4455"), 0);
      check.due("state", Check.state(q), before);
      check.due("buffered", q.buffered(0) + q.buffered(1), 2);
    }
  }

  private static void alreadyHasTheStatus() {
    check.about("if the collector asks for a status that the mutator does not have .. else nothing");
    for (int phase : new int[] {1, 2, 3, 6}) {
      QuietSweep q = Check.after(0, "a=*;a.l=a;", "b=*;b.l=b;", TO_PHASE[phase]);
      check.due("4 5 in phase " + phase, Check.entries(q, "45"), 2);
      Check.entries(q, "0011");
      String before = Check.state(q);
      check.due("4 5 once more", Check.entries(q, "4545"), 0);
      check.due("state", Check.state(q), before);
      check.due("buffered", q.buffered(0) + q.buffered(1), 2);
    }
  }

  private static void answerWithEveryCountOfStores() {
    check.about("all stores in its buffer go to memory");
    for (int count = 0; count <= 3; count++) {
      for (int m = 0; m < 2; m++) {
        String program = "a=*;x=5;" + "a.n=x;a.l=a;a.r=a;".substring(0, 6 * count);
        QuietSweep q = Check.loaded(0, program, program);
        q.repeat(0, 9);
        q.repeat(1, 9);
        q.go(6, 1);
        check.due("buffered", q.buffered(m), count);
        check.due("the answer with " + count + " stores", q.repeat(4 + m, 1), 1);
        check.due("buffered", q.buffered(m), 0);
        check.due("buffered of the other", q.buffered(1 - m), count);
        check.due("field n", q.field(m, 2), count > 0 ? 5 : 0);
        check.due("field l", q.field(m, 0), count > 1 ? m : -1);
        check.due("field r", q.field(m, 1), count > 2 ? m : -1);
        check.due("fields of the other", Check.fields(q, 1 - m), "-1 -1 0");
      }
    }
  }

  private static void answerOldestFirst() {
    check.about("all stores in its buffer go to memory, the oldest first");
    QuietSweep q = Check.after(0, "a=*;x=1;a.n=x;x=2;a.n=x;x=3;a.n=x;", "", "000000064");
    check.due("field(0, 2)", q.field(0, 2), 3);
    QuietSweep r = Check.after(0, "a=*;b=*;a.l=a;a.l=b;", "", "0000264");
    check.due("field(0, 0)", r.field(0, 0), 1);
  }

  private static void rootsOfEveryVariable() {
    check.about("if that is ROOTS its variables a b c d are marked");
    for (int v = 0; v < 4; v++) {
      String name = "abcd".substring(v, v + 1);
      String program = name + "=*;" + name + "=*;";
      QuietSweep q = Check.after(0, program, program, "0011" + TO_PHASE[3] + "4");
      check.due("colours behind 4, " + name, Check.colours(q), "1211");
      Check.entries(q, "5");
      check.due("colours behind 5, " + name, Check.colours(q), "1212");
    }
    QuietSweep r = Check.after(4, "a=*;b=*;c=*;d=*;", "d=*;c=*;b=*;a=*;", "00001111" + TO_PHASE[3] + "5");
    check.due("colours", Check.colours(r), "11112222");
    Check.entries(r, "4");
    check.due("colours", Check.colours(r), "22222222");
  }

  private static void rootsThatAreNone() {
    check.about("variables that are NONE, that are BLACK, or that have one cell twice");
    QuietSweep q = Check.after(0, "a=*;a=-;", "", "00" + TO_PHASE[3]);
    check.due("4 5", Check.entries(q, "45"), 2);
    check.due("colours", Check.colours(q), "1000");
    QuietSweep r = Check.after(0, "a=*;b=*;c=b;d=b;", "", "0" + TO_PHASE[2] + "450006");
    check.due("phase()", r.phase(), 3);
    check.due("colours", Check.colours(r), "1300");
    Check.entries(r, "45");
    check.due("colours", Check.colours(r), "2300");
  }

  private static void noRootsBeforeRoots() {
    check.about("variables are marked at ROOTS alone");
    QuietSweep q = Check.after(0, "a=*;b=*;", "c=*;", "001645");
    check.due("colours at FIRST", Check.colours(q), "1110");
    Check.entries(q, "645");
    check.due("colours at SECOND", Check.colours(q), "1110");
    QuietSweep r = Check.after(0, "a=*;", "", TO_PHASE[6] + "4");
    Check.entries(r, "05");
    check.due("a cell that is new at REST, behind the answer of the other", Check.colours(r), "1000");
  }

  private static void notFreeBecomesWhite() {
    check.about("REST: every cell that is not FREE becomes WHITE");
    QuietSweep q = Check.after(0, "", "", "");
    check.due("6 without cells", Check.entries(q, "6"), 1);
    check.due("colours", Check.colours(q), "0000");
    QuietSweep r = Check.after(0, "a=*;b=*;", "c=*;", TO_PHASE[6] + "00451");
    check.due("colours", Check.colours(r), "3310");
    check.due("6", Check.entries(r, "6"), 1);
    check.due("colours in phase 0", Check.colours(r), "3310");
    check.due("6", Check.entries(r, "6"), 1);
    check.due("colours in phase 1", Check.colours(r), "1110");
    QuietSweep s = Check.after(7, "a=*;b=*;a=*;a=*;a=*;a=*;a=*;a=*;a=*;a=*;a=*;", "", TO_PHASE[4] + "66666666666600000000000");
    check.due("colours of all", Check.colours(s), "33333333333");
    Check.entries(s, "4566");
    check.due("colours of all in phase 1", Check.colours(s), "11111111111");
  }

  private static void bothMutatorsHaveThatStatus() {
    check.about("if both mutators have that status, the phase grows by 1 (or becomes 0); else nothing");
    for (int phase : new int[] {1, 2, 3, 6}) {
      QuietSweep q = Check.after(0, "", "", TO_PHASE[phase]);
      check.due("6 without an answer", Check.entries(q, "67"), 0);
      check.due("4 6", Check.entries(q, "467"), 1);
      check.due("phase()", q.phase(), phase);
      check.due("5 6", Check.entries(q, "56"), 2);
      check.due("phase()", q.phase(), (phase + 1) % 7);
      QuietSweep r = Check.after(0, "", "", TO_PHASE[phase]);
      check.due("5 6", Check.entries(r, "567"), 1);
      check.due("phase()", r.phase(), phase);
      check.due("cycles()", r.cycles(), 0);
      check.due("4 6", Check.entries(r, "47"), 2);
      check.due("phase()", r.phase(), (phase + 1) % 7);
    }
  }

  private static void noGreyCellAtAll() {
    check.about("TRACE: else the phase becomes 5");
    QuietSweep q = Check.after(0, "", "", TO_PHASE[4]);
    check.due("6", Check.entries(q, "6"), 1);
    check.due("phase() without cells", q.phase(), 5);
    QuietSweep r = Check.after(0, "a=*;a=*;a=-;", "", "000" + TO_PHASE[4] + "6");
    check.due("phase() without GREY cells", r.phase(), 5);
    check.due("colours", Check.colours(r), "1100");
    QuietSweep s = Check.after(0, "a=*;", "", TO_PHASE[4] + "06");
    check.due("phase() with a BLACK cell", s.phase(), 5);
    check.due("colours", Check.colours(s), "3000");
  }

  private static void halfScannedComesFirst() {
    check.about("TRACE: if a cell is half scanned .. it becomes BLACK, and it is half scanned no more");
    QuietSweep q = Check.after(0, "a=*;b=*;c=*;c.l=a;c.r=b;a=-;b=-;", "", "0000000" + TO_PHASE[4]);
    String[] due = {"2120", "2230", "2230", "3230", "3230", "3330"};
    for (String colours : due) {
      check.due("6", Check.entries(q, "6"), 1);
      check.due("colours", Check.colours(q), colours);
      check.due("phase()", q.phase(), 4);
    }
    check.due("6", Check.entries(q, "6"), 1);
    check.due("phase()", q.phase(), 5);
  }

  private static void leastGreyCell() {
    check.about("TRACE: if there is a GREY cell, the one with the least number");
    QuietSweep q = Check.after(0, "a=*;d=*;c=*;b=*;", "", "0000" + TO_PHASE[4]);
    String[] due = {"2222", "3222", "3222", "3322", "3322", "3332", "3332", "3333"};
    for (String colours : due) {
      Check.entries(q, "7");
      check.due("colours", Check.colours(q), colours);
    }
    check.due("phase()", q.phase(), 4);
  }

  private static void fieldsThatAreNoneOrTheCellItself() {
    check.about("TRACE: what its field l, r has in memory is marked, NONE and the cell itself too");
    QuietSweep q = Check.after(0, "a=*;b=*;a.l=a;a.r=a;", "", "000022" + TO_PHASE[4]);
    String[] due = {"2200", "3200", "3200", "3300"};
    for (String colours : due) {
      Check.entries(q, "6");
      check.due("colours", Check.colours(q), colours);
    }
    Check.entries(q, "6");
    check.due("phase()", q.phase(), 5);
  }

  private static void greatestCellIsTraced() {
    check.about("TRACE: the cell with the greatest number is one of them");
    QuietSweep q = Check.loaded(7, "a=*;b=a;(bb=*;)", "");
    Check.entries(q, "00");
    q.repeat(0, 31);
    check.due("variable(0, 1)", q.variable(0, 1), 10);
    Check.load(q, 0, "a.r=b;b=-;");
    Check.entries(q, "00" + TO_PHASE[4]);
    check.due("colours", Check.colours(q), "21111111111");
    Check.entries(q, "6");
    check.due("colours", Check.colours(q), "21111111111");
    Check.entries(q, "6");
    check.due("colours", Check.colours(q), "31111111112");
    Check.entries(q, "66");
    check.due("colours", Check.colours(q), "31111111113");
    Check.entries(q, "6" + "66666666666");
    check.due("phase()", q.phase(), 6);
    check.due("colours", Check.colours(q), "30000000003");
  }

  private static void sweepIsAtCell0EachTime() {
    check.about("TRACE: the phase becomes 5 and the sweep is at cell 0");
    QuietSweep q = Check.after(0, "a=*;a=*;a=-;", "", "");
    for (int round = 0; round < 3; round++) {
      Check.load(q, 0, "a=*;a=*;a=-;");
      Check.entries(q, "000" + TO_PHASE[5]);
      check.due("colours", Check.colours(q), "1100");
      Check.entries(q, "6");
      check.due("colours", Check.colours(q), "0100");
      Check.entries(q, "666456");
      check.due("colours", Check.colours(q), "0000");
      check.due("phase()", q.phase(), 0);
    }
  }

  private static void sweepBehindTheLastCell() {
    check.about("SWEEP: behind the last one the phase becomes 6");
    for (int cells = 0; cells < 8; cells++) {
      QuietSweep q = Check.after(cells, "", "", TO_PHASE[5]);
      check.due("moved", q.repeat(6, cells + 3), cells + 3);
      check.due("phase() at the last cell", q.phase(), 5);
      check.due("moved", q.repeat(7, 1), 1);
      check.due("phase() behind it", q.phase(), 6);
      check.due("moved", q.repeat(6, 1), 0);
    }
  }

  private static void sweepOfWhiteAlone() {
    check.about("SWEEP: the cell where the sweep is becomes FREE if it is WHITE");
    QuietSweep q = Check.after(0, "a=*;b=*;a=-;", "d=*;d=-;", "00011" + TO_PHASE[4] + "666");
    check.due("phase()", q.phase(), 5);
    check.due("colours", Check.colours(q), "1310");
    String[] due = {"0310", "0310", "0300", "0300"};
    for (String colours : due) {
      Check.entries(q, "6");
      check.due("colours", Check.colours(q), colours);
    }
    check.about("SWEEP: a cell that is new behind or before the sweep is BLACK and stays");
    QuietSweep r = Check.after(0, "a=*;b=*;c=*;", "", TO_PHASE[5] + "6600066");
    check.due("colours", Check.colours(r), "3330");
    check.due("phase()", r.phase(), 6);
    check.about("SWEEP: the last cell");
    QuietSweep s = Check.after(0, "a=*;a=*;a=*;a=*;a=-;", "", "00000" + TO_PHASE[5] + "666");
    check.due("colours", Check.colours(s), "0001");
    Check.entries(s, "6");
    check.due("colours", Check.colours(s), "0000");
  }

  private static void fieldsStayInTheSweep() {
    check.about("SWEEP: becomes FREE (its fields stay)");
    QuietSweep q = Check.after(0, "a=*;b=*;x=6;a.l=b;a.r=a;a.n=x;a=-;b=-;", "", "00000000222" + TO_PHASE[5] + "6666");
    check.due("colours", Check.colours(q), "0000");
    check.due("fields", Check.fields(q, 0), "1 0 6");
    check.due("seen(0, 0, 2)", q.seen(0, 0, 2), 6);
    check.due("reached()", q.reached(), 0);
    check.due("reaches(1)", q.reaches(1), false);
  }

  private static void cycleIsCountedAtTheEnd() {
    check.about("the phase becomes 0 and a cycle is counted; else nothing");
    QuietSweep q = new QuietSweep(0);
    for (int count = 0; count < 10; count++) {
      Check.entries(q, TO_PHASE[6]);
      check.due("cycles() in phase 6", q.cycles(), count);
      check.due("6 4 6", Check.entries(q, "646"), 1);
      check.due("cycles() before the other answer", q.cycles(), count);
      check.due("5", Check.entries(q, "5"), 1);
      check.due("cycles() behind the answers", q.cycles(), count);
      check.due("6", Check.entries(q, "6"), 1);
      check.due("cycles() in phase 0", q.cycles(), count + 1);
      check.due("phase()", q.phase(), 0);
    }
  }

  private static void phaseGoesRound() {
    check.about("behind phase 6 comes phase 0, and all begins again");
    QuietSweep q = Check.after(0, "a=*;b=*;b=-;", "", "000" + TO_PHASE[4] + "666" + "6666" + "456");
    check.due("phase()", q.phase(), 0);
    check.due("colours", Check.colours(q), "3000");
    Check.entries(q, "6");
    check.due("phase()", q.phase(), 1);
    check.due("colours", Check.colours(q), "1000");
    check.due("status", q.status(0) + q.status(1), 0);
    check.due("the answers of the second cycle", Check.entries(q, "456456456"), 9);
    check.due("phase()", q.phase(), 4);
    check.due("colours", Check.colours(q), "2000");
    Check.load(q, 0, "a=-;");
    Check.entries(q, "0" + "6666666" + "456" + TO_PHASE[5] + "6666");
    check.due("cycles()", q.cycles(), 2);
    check.due("colours", Check.colours(q), "0000");
  }

  private static void colourOfNoCell() {
    check.about("colour: NONE if there is no such cell");
    QuietSweep q = Check.after(0, "a=*;b=*;c=*;d=*;", "", "0000");
    for (int cell : NO_CELLS_OF_FOUR) {
      check.due("colour(" + cell + ")", q.colour(cell), -1);
    }
    check.due("colour(0)", q.colour(0), 1);
    check.due("colour(3)", q.colour(3), 1);
    check.due("colour(10) of 11", new QuietSweep(7).colour(10), 0);
    check.due("colour(11) of 11", new QuietSweep(7).colour(11), -1);
  }

  private static void freeOfNoneAndOfAll() {
    check.about("free: how many cells are FREE, of all and of none");
    for (int cells : new int[] {0, 7}) {
      QuietSweep q = Check.loaded(cells, "a=*;".repeat(12), "");
      for (int made = 0; made <= cells + 4; made++) {
        check.due("free()", q.free(), cells + 4 - made);
        q.repeat(0, 1);
      }
      check.due("free() behind a stall", q.free(), 0);
    }
  }

  private static void reachedOfNoneAndOfAll() {
    check.about("reached: how many cells, none and all");
    check.due("reached() of a new object", new QuietSweep(7).reached(), 0);
    QuietSweep q = Check.after(0, "a=*;b=*;", "c=*;d=*;", "0011");
    check.due("reached() of all", q.reached(), 4);
    // A chain of all eleven cells, each in a field of the next.
    QuietSweep r = Check.after(7, "a=*;(ab=*;b.r=a;a=b;)", "", "0");
    for (int k = 0; k < 10; k++) {
      Check.entries(r, "000002");
    }
    Check.entries(r, "0");
    check.due("stalls(0)", r.stalls(0), 0);
    Check.load(r, 0, "b=-;a=a;a=-;");
    Check.entries(r, "0");
    check.due("reached() of a chain", r.reached(), 11);
    for (int cell = 0; cell < 11; cell++) {
      check.due("reaches(" + cell + ")", r.reaches(cell), true);
    }
    Check.entries(r, "00");
    check.due("reached() of none", r.reached(), 0);
    check.due("reaches(10)", r.reaches(10), false);
  }

  private static void reachedByStores() {
    check.about("reached: in each store of a buffer, the cell and, where the field is l or r, the value");
    for (String field : new String[] {"l", "r"}) {
      for (int m = 0; m < 2; m++) {
        String program = "a=*;b=*;a." + field + "=b;a=-;b=-;";
        QuietSweep q = Check.loaded(0, m == 0 ? program : "", m == 1 ? program : "");
        q.repeat(m, 5);
        check.due("reached() with a store to " + field, q.reached(), 2);
        q.repeat(2 + m, 1);
        check.due("reached() behind it", q.reached(), 0);
      }
    }
    check.about("reached: in each store of a buffer that is full");
    QuietSweep r = Check.after(4, "a=*;b=*;c=*;d=*;a.l=b;c.r=d;a=*;b=*;", "", "00000000");
    Check.load(r, 0, "b.l=a;a=-;b=-;c=-;d=-;");
    Check.entries(r, "00000");
    check.due("buffered(0)", r.buffered(0), 3);
    int[] due = {6, 4, 2, 0};
    for (int count : due) {
      check.due("reached()", r.reached(), count);
      Check.entries(r, "2");
    }
  }

  private static void reachedByNone() {
    check.about("reached: NONE in a variable, a store or a field is no cell");
    QuietSweep q = Check.after(0, "a=*;a.l=-;a.r=b;a=-;", "", "0000");
    check.due("reached()", q.reached(), 1);
    check.due("reaches(0)", q.reaches(0), true);
    check.due("reaches(3)", q.reaches(3), false);
    check.due("reaches(-1)", q.reaches(-1), false);
  }

  private static void reachedByInts() {
    check.about("reached: where the field is n the value is no cell");
    QuietSweep q = Check.after(0, "a=*;b=*;x=1;a.n=x;a=-;b=-;", "", "000000");
    check.due("reached()", q.reached(), 1);
    check.due("reaches(1)", q.reaches(1), false);
    QuietSweep r = Check.after(0, "a=*;b=*;x=1;a.n=x;b=-;", "", "000002");
    check.due("reached() by n in memory", r.reached(), 1);
    check.due("reached() by the variable x", Check.after(0, "a=*;a=*;x=1;a=-;", "", "0000").reached(), 0);
  }

  private static void reachedByMemory() {
    check.about("reached: with a cell, what its fields l and r have in memory");
    QuietSweep q = Check.after(0, "a=*;b=*;c=*;a.l=b;a.r=c;b=-;c=-;", "", "000000022");
    check.due("reached()", q.reached(), 3);
    Check.load(q, 0, "a.l=-;a.r=-;");
    Check.entries(q, "00");
    check.due("reached() while the stores are in the buffer", q.reached(), 3);
    Check.entries(q, "2");
    check.due("reaches(1)", q.reaches(1), false);
    check.due("reaches(2)", q.reaches(2), true);
    Check.entries(q, "2");
    check.due("reached()", q.reached(), 1);
    check.about("reached: a ring of cells");
    QuietSweep r = Check.after(0, "a=*;b=*;a.l=b;b.r=a;a=-;", "", "0000022");
    check.due("reached()", r.reached(), 2);
    Check.load(r, 0, "b=-;");
    Check.entries(r, "0");
    check.due("reached() of a ring that is let go", r.reached(), 0);
    check.due("free() of it", r.free(), 2);
  }

  private static void reachesNoCell() {
    check.about("reaches: false if there is no such cell");
    QuietSweep q = Check.after(0, "a=*;b=*;c=*;d=*;", "", "0000");
    for (int cell : NO_CELLS_OF_FOUR) {
      check.due("reaches(" + cell + ")", q.reaches(cell), false);
    }
    for (int cell = 0; cell < 4; cell++) {
      check.due("reaches(" + cell + ")", q.reaches(cell), true);
    }
  }
}
