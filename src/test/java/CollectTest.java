/** Promises 14, 17, 18 and 19: whitening, tracing, sweeping and counting. */
public final class CollectTest {
  private static final Check check = new Check();

  public static void main(String[] args) {
    whitens();
    tracesLeastGreyFirst();
    tracesOneFieldAtATime();
    tracesWhatMemoryHas();
    goesBackToLesserCells();
    cellGreyInTheSweep();
    sweepsCellByCell();
    keepsRingsGivesBackRings();
    countsCycles();
    noSuchCell();
    check.end();
  }

  private static void colours(QuietSweep q, String due) {
    int free = 0;
    for (int cell = 0; cell < due.length(); cell++) {
      check.due("colour(" + cell + ")", q.colour(cell), due.charAt(cell) - '0');
      if (due.charAt(cell) == '0') {
        free++;
      }
    }
    check.due("free()", q.free(), free);
  }

  private static void whitens() {
    check.about("promise 14, phase 0 whitens what is not FREE");
    QuietSweep q = Check.loaded(2, "a=*;b=*;", "");
    q.repeat(0, 1);
    Check.toPhase(q, 6);
    q.repeat(0, 1);
    colours(q, "330000");
    Check.entries(q, "456");
    check.due("phase()", q.phase(), 0);
    colours(q, "330000");
    Check.entries(q, "6");
    colours(q, "110000");
  }

  private static void tracesLeastGreyFirst() {
    check.about("promises 14 and 17, the least GREY cell is first");
    QuietSweep q = Check.loaded(1, "a=*;b=*;c=*;a=-;", "d=*;");
    q.repeat(0, 60);
    q.repeat(1, 60);
    Check.toPhase(q, 4);
    colours(q, "12220");
    String[] due = {"12220", "13220", "13220", "13320", "13320", "13330"};
    for (String colours : due) {
      check.due("6", Check.entries(q, "6"), 1);
      colours(q, colours);
      check.due("phase()", q.phase(), 4);
    }
    check.due("6", Check.entries(q, "6"), 1);
    check.due("phase()", q.phase(), 5);
    colours(q, "13330");
  }

  private static void tracesOneFieldAtATime() {
    check.about("promise 14, first l, then r");
    QuietSweep q = Check.loaded(0, "a=*;b=*;c=*;a.l=b;a.r=c;b=-;c=-;", "");
    q.repeat(0, 60);
    Check.toPhase(q, 4);
    colours(q, "2110");
    Check.entries(q, "6");
    colours(q, "2210");
    Check.entries(q, "7");
    colours(q, "3220");
    Check.entries(q, "6");
    colours(q, "3220");
    Check.entries(q, "6");
    colours(q, "3320");
    Check.entries(q, "66");
    colours(q, "3330");
    check.due("phase()", q.phase(), 4);
    Check.entries(q, "6");
    check.due("phase()", q.phase(), 5);

    check.about("promise 14, r is read when the cell is done, not before");
    QuietSweep r = Check.loaded(0, "a=*;b=*;a.r=b;b=-;", "");
    r.repeat(0, 60);
    Check.toPhase(r, 4);
    Check.entries(r, "6");
    colours(r, "2100");
    Check.load(r, 0, "c=*;a.r=c;");
    r.repeat(0, 2);
    colours(r, "2230");
    r.repeat(2, 1);
    check.due("field(0, 1)", r.field(0, 1), 2);
    Check.entries(r, "6");
    colours(r, "3230");
  }

  private static void tracesWhatMemoryHas() {
    check.about("promise 14, the trace reads memory, not buffers");
    QuietSweep q = Check.loaded(0, "a=*;b=*;a.l=b;b=-;", "");
    q.repeat(0, 60);
    Check.toPhase(q, 4);
    colours(q, "2100");
    Check.load(q, 0, "a.l=-;");
    q.repeat(0, 1);
    colours(q, "2200");
    Check.entries(q, "66");
    colours(q, "3200");
    Check.entries(q, "66");
    colours(q, "3300");
  }

  private static void goesBackToLesserCells() {
    check.about("promise 14, the trace goes back to lesser cells");
    QuietSweep q = Check.loaded(0, "a=*;b=*;c=*;c.l=a;c.r=b;a=-;b=-;", "");
    q.repeat(0, 60);
    Check.toPhase(q, 4);
    colours(q, "1120");
    Check.entries(q, "6");
    colours(q, "2120");
    Check.entries(q, "6");
    colours(q, "2230");
    Check.entries(q, "66");
    colours(q, "3230");
    Check.entries(q, "66");
    colours(q, "3330");

    check.about("promise 14, a half scanned cell is done before a lesser GREY one");
    QuietSweep r = Check.loaded(0, "a=*;b=*;b.l=a;a=-;", "");
    r.repeat(0, 60);
    Check.toPhase(r, 4);
    colours(r, "1200");
    Check.entries(r, "6");
    colours(r, "2200");
    Check.entries(r, "6");
    colours(r, "2300");
  }

  private static void cellGreyInTheSweep() {
    check.about("promise 14, only WHITE cells become FREE");
    QuietSweep q = Check.loaded(0, "a=*;b=*;a=-;", "");
    q.repeat(0, 60);
    Check.toPhase(q, 5);
    colours(q, "1300");
    Check.entries(q, "6666");
    colours(q, "0300");
    check.due("phase()", q.phase(), 6);
  }

  private static void sweepsCellByCell() {
    check.about("promises 14, 17 and 19, the sweep");
    for (int cells = 0; cells < 8; cells++) {
      QuietSweep q = Check.loaded(cells, "a=*;a=*;a=*;a=*;a=*;a=*;a=*;a=*;a=*;a=*;a=*;", "");
      int count = cells + 4;
      q.repeat(0, count);
      check.due("free()", q.free(), 0);
      Check.toPhase(q, 5);
      for (int swept = 0; swept < count; swept++) {
        check.due("phase()", q.phase(), 5);
        check.due("free()", q.free(), swept);
        check.due("colour(where the sweep is)", q.colour(swept), swept == count - 1 ? 3 : 1);
        check.due("6", Check.entries(q, "6"), 1);
        check.due("colour(swept)", q.colour(swept), swept == count - 1 ? 3 : 0);
      }
      check.due("phase()", q.phase(), 6);
      check.due("free()", q.free(), count - 1);
    }

    check.about("promise 17, the sweep begins at cell 0 each time");
    QuietSweep r = Check.loaded(0, "a=*;a=*;a=-;", "");
    r.repeat(0, 1);
    Check.toPhase(r, 6);
    Check.toPhase(r, 0);
    r.repeat(0, 2);
    Check.toPhase(r, 5);
    colours(r, "1100");
    Check.entries(r, "6");
    colours(r, "0100");
    Check.entries(r, "6");
    colours(r, "0000");
    check.due("phase()", r.phase(), 5);
  }

  private static void keepsRingsGivesBackRings() {
    check.about("promise 19, rings");
    QuietSweep q = Check.loaded(4, "a=*;b=*;a.l=b;b.r=a;b=-;", "c=*;d=*;c.r=d;d.l=c;c=-;d=-;");
    q.repeat(0, 60);
    q.repeat(1, 60);
    check.due("free()", q.free(), 4);
    Check.toPhase(q, 6);
    check.due("free()", q.free(), 6);
    colours(q, "33000000");
    check.due("field(2, 1)", q.field(2, 1), 3);
    check.due("field(3, 0)", q.field(3, 0), 2);
    Check.load(q, 1, "a=*;b=*;");
    q.repeat(1, 2);
    check.due("variable(1, 0)", q.variable(1, 0), 2);
    check.due("variable(1, 1)", q.variable(1, 1), 3);
    check.due("field(2, 1)", q.field(2, 1), -1);
    check.due("free()", q.free(), 4);
  }

  private static void countsCycles() {
    check.about("promise 18, cycles");
    QuietSweep q = Check.loaded(0, "a=*;b=*;", "");
    q.repeat(0, 1);
    for (int k = 1; k <= 12; k++) {
      Check.toPhase(q, 6);
      check.due("cycles()", q.cycles(), k - 1);
      Check.toPhase(q, 0);
      check.due("cycles()", q.cycles(), k);
      check.due("phase()", q.phase(), 0);
      check.due("free()", q.free(), 3);
    }
  }

  private static void noSuchCell() {
    check.about("promise 14, no such cell");
    for (int cells = 0; cells < 8; cells++) {
      QuietSweep q = new QuietSweep(cells);
      for (int wrong : new int[] {-1, cells + 4, cells + 5, 12, Integer.MAX_VALUE, Integer.MIN_VALUE}) {
        check.due("colour(" + wrong + ")", q.colour(wrong), -1);
      }
      check.due("colour(last)", q.colour(cells + 3), 0);
    }
  }
}
