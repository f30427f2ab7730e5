/** The edges of what a mutator does (promises 7 to 13, 15 and 16): one method for each sentence that names one. */
public final class EdgeMutatorTest {
  private static final Check check = new Check();
  private static final int[] NO_MUTATORS = {-1, 2, 3, 256, Integer.MAX_VALUE, Integer.MIN_VALUE};

  public static void main(String[] args) {
    atFirst();
    fieldOfNone();
    intOfNone();
    leastAndGreatestDigit();
    sumsWrap();
    testOfNoneAndOfACell();
    loopAtTheEnd();
    noCellIsFree();
    leastFreeCell();
    newCellByStatus();
    newCellHasNewFields();
    storeToNone();
    storeToNoneWithFullBuffer();
    fullBuffer();
    storeMarksNothingAtRest();
    storeOfAnIntMarksNothing();
    storeMarksSeenAndStored();
    storeOfNone();
    storeGoesBehindTheOthers();
    latestStoreIsSeen();
    ownBufferIsSeen();
    noStoreIsSeenElse();
    outputFromTheLatest();
    outputNot0To15();
    notSoManyOutputs();
    variableEdges();
    intsThatLookLikeNone();
    noSuchMutator();
    noSuchCell();
    noSuchField();
    check.end();
  }

  private static void atFirst() {
    check.about("at first: FREE with l and r NONE and n 0; a b c d NONE, x y z 0, REST, no instructions, phase 0");
    for (int cells = 0; cells < 8; cells++) {
      QuietSweep q = new QuietSweep(cells);
      check.due("colours", Check.colours(q), "0".repeat(cells + 4));
      for (int cell = 0; cell < cells + 4; cell++) {
        check.due("fields", Check.fields(q, cell), "-1 -1 0");
      }
      for (int m = 0; m < 2; m++) {
        check.due("variables", Check.variables(q, m), "-1 -1 -1 -1 0 0 0");
        check.due("status", q.status(m), 0);
        check.due("code", q.code(m, 0), -1);
        check.due("position", q.position(m), 0);
        check.due("buffered", q.buffered(m), 0);
        check.due("stalls", q.stalls(m), 0);
        check.due("outputs", q.outputs(m), 0);
      }
      check.due("phase, cycles, reached", q.phase() + q.cycles() + q.reached(), 0);
    }
  }

  private static void fieldOfNone() {
    check.about("what is seen in the field of cell S, NONE if S is NONE");
    for (String get : new String[] {"a=b.l;", "a=b.r;", "a=c.l;", "a=d.r;"}) {
      QuietSweep q = Check.after(0, "a=*;" + get, "", "00");
      check.due("variables behind " + get, Check.variables(q, 0), "-1 -1 -1 -1 0 0 0");
      check.due("position(0)", q.position(0), 2);
      check.due("stalls(0)", q.stalls(0), 0);
    }
    check.about("what is seen in the field of cell S, which may be NONE too, or S itself");
    QuietSweep r = Check.after(0, "a=*;b=a.l;a=a.r;", "", "0");
    check.due("moved", Check.entries(r, "00"), 2);
    check.due("variables", Check.variables(r, 0), "-1 -1 -1 -1 0 0 0");
    QuietSweep s = Check.after(0, "a=*;a.l=a;b=a.l;a=a.l;", "", "0000");
    check.due("variables", Check.variables(s, 0), "0 0 -1 -1 0 0 0");
  }

  private static void intOfNone() {
    check.about("I=S.n;  what is seen in the field, 0 if S is NONE");
    QuietSweep q = Check.after(0, "x=7;y=8;x=a.n;y=d.n;", "", "0000");
    check.due("variables", Check.variables(q, 0), "-1 -1 -1 -1 0 0 0");
    check.due("position(0)", q.position(0), 4);
    QuietSweep r = Check.after(0, "a=*;x=7;y=a.n;a.n=x;z=a.n;", "", "00000");
    check.due("variables", Check.variables(r, 0), "0 -1 -1 -1 7 0 7");
  }

  private static void leastAndGreatestDigit() {
    check.about("I=0; .. I=9;  a digit");
    QuietSweep q = Check.after(0, "x=9;y=0;z=1;z=0;", "", "000");
    check.due("variables", Check.variables(q, 0), "-1 -1 -1 -1 9 0 1");
    Check.entries(q, "0");
    check.due("variables", Check.variables(q, 0), "-1 -1 -1 -1 9 0 0");
  }

  private static void sumsWrap() {
    check.about("I=J+K;  the sum, wrapping");
    // Behind k rounds y is 2 to the k less 1, and x is 2 to the k.
    QuietSweep q = Check.after(0, "a=*;x=1;(ay=y+x;x=x+x;)", "", "00");
    q.repeat(0, 60);
    q.repeat(0, 60);
    q.repeat(0, 4);
    check.due("the greatest int", q.variable(0, 5), Integer.MAX_VALUE);
    check.due("the double of 2 to the 30", q.variable(0, 4), Integer.MIN_VALUE);
    Check.load(q, 0, "z=1;z=y+z;!z;z=x+x;!z;z=y+y;!z;z=x+y;!z;y=x+z;!y;");
    check.due("moved", q.repeat(0, 60), 11);
    check.due("the greatest and 1", q.output(0, 4), Integer.MIN_VALUE);
    check.due("the least twice", q.output(0, 3), 0);
    check.due("the greatest twice", q.output(0, 2), -2);
    check.due("the least and the greatest", q.output(0, 1), -1);
    check.due("the least and -1", q.output(0, 0), Integer.MAX_VALUE);
  }

  private static void testOfNoneAndOfACell() {
    check.about("TEST goes on behind the loop's BACK if R is NONE, else to the next instruction");
    for (int v = 0; v < 4; v++) {
      String name = "abcd".substring(v, v + 1);
      QuietSweep q = Check.after(0, "(" + name + "!x;!x;)x=1;", "", "0");
      check.due("position(0) with " + name + " NONE", q.position(0), 4);
      QuietSweep r = Check.after(0, name + "=*;(" + name + "!x;!x;)x=1;", "", "00");
      check.due("position(0) with " + name + " a cell", r.position(0), 2);
      check.due("the cell is 0, which is not NONE", r.variable(0, v), 0);
      Check.entries(r, "00");
      check.due("position(0) at BACK", r.position(0), 4);
      Check.entries(r, "0");
      check.due("BACK goes to the loop's TEST", r.position(0), 1);
    }
  }

  private static void loopAtTheEnd() {
    check.about("TEST goes on behind the loop's BACK, which may be behind the last instruction");
    QuietSweep q = Check.loaded(0, "(a)", "(a(b(c(d(a(b))))))");
    check.due("moved", Check.entries(q, "000111"), 2);
    check.due("position(0)", q.position(0), 2);
    check.due("position(1)", q.position(1), 12);
    check.about("TEST and BACK of loops that are 6 deep");
    QuietSweep r = Check.loaded(0, "a=*;(a(a(a(a(a(a!x;a=-;))))))", "");
    check.due("moved", r.repeat(0, 60), 21);
    check.due("outputs(0)", r.outputs(0), 1);
    check.due("position(0)", r.position(0), 15);
  }

  private static void noCellIsFree() {
    check.about("a new cell: if no cell is FREE the mutator stalls: nothing is done but that its stalls are counted");
    for (int cells : new int[] {0, 7}) {
      QuietSweep q = Check.loaded(cells, "a=*;b=a;(aa=*;)", "c=*;c=*;");
      q.repeat(1, 1);
      for (int k = 0; k < 60 && q.free() > 1; k++) {
        q.repeat(0, 1);
      }
      check.due("the last FREE cell", q.repeat(1, 1), 1);
      check.due("variable(1, 2)", q.variable(1, 2), cells + 3);
      check.due("stalls(1)", q.stalls(1), 0);
      q.repeat(0, 2);
      String before = Check.state(q);
      int stalls = q.stalls(0);
      check.due("repeat(0, 3)", q.repeat(0, 3), 0);
      check.due("state", Check.state(q), before.replaceFirst("stalls " + stalls, "stalls " + (stalls + 3)));
    }
  }

  private static void leastFreeCell() {
    check.about("the FREE cell with the least number");
    QuietSweep q = Check.after(0, "a=*;b=*;c=*;d=*;b=-;d=-;", "", "000000");
    Check.toPhase(q, 6);
    check.due("colours", Check.colours(q), "3030");
    Check.load(q, 0, "b=*;d=*;");
    Check.entries(q, "0");
    check.due("variable(0, 1)", q.variable(0, 1), 1);
    Check.entries(q, "0");
    check.due("variable(0, 3)", q.variable(0, 3), 3);
    check.due("free()", q.free(), 0);
  }

  private static void newCellByStatus() {
    check.about("becomes BLACK if the mutator's status is SECOND or ROOTS, else WHITE");
    String[] schedules = {"", "64", "645645", "645645645", "645645645666666"};
    String due = "11333";
    for (int k = 0; k < schedules.length; k++) {
      QuietSweep q = Check.after(0, "a=*;", "b=*;", schedules[k] + "01");
      check.due("cell 0 with status " + q.status(0), q.colour(0), due.charAt(k) - '0');
    }
    QuietSweep q = Check.after(0, "a=*;", "b=*;", "6456401");
    check.due("each by its own status", Check.colours(q), "3100");
    QuietSweep r = Check.after(0, "a=*;", "b=*;", "645645645666666401");
    check.due("each by its own status in phase 6", Check.colours(r), "1300");
  }

  private static void newCellHasNewFields() {
    check.about("in memory its fields become NONE, NONE and 0");
    QuietSweep q = Check.after(0, "a=*;b=*;a.l=b;a.r=a;x=9;a.n=x;a=-;b=-;", "", "00000000222");
    Check.toPhase(q, 6);
    check.due("colours", Check.colours(q), "0000");
    check.due("the fields stay", Check.fields(q, 0), "1 0 9");
    Check.load(q, 1, "c=*;");
    Check.entries(q, "1");
    check.due("the fields of the new cell", Check.fields(q, 0), "-1 -1 0");
    check.due("seen(0, 0, 2)", q.seen(0, 0, 2), 0);
    check.due("buffered(1)", q.buffered(1), 0);
  }

  private static void storeToNone() {
    check.about("a store: if R is NONE, only the position grows");
    for (String store : new String[] {"a.l=b;", "a.r=b;", "a.l=-;", "a.r=-;", "a.n=x;", "a.l=a;"}) {
      for (String answers : new String[] {"", "64", "645645", "645645645"}) {
        QuietSweep q = Check.after(0, "b=*;x=3;" + store, "", "00" + answers);
        String before = Check.state(q);
        check.due("moved at " + store, Check.entries(q, "0"), 1);
        check.due("state", Check.state(q), before.replaceFirst("at 2 of", "at 3 of"));
      }
    }
  }

  private static void storeToNoneWithFullBuffer() {
    check.about("a store: if R is NONE, only the position grows, with 3 stores in the buffer too");
    QuietSweep q = Check.after(0, "b=*;b.l=b;b.r=b;b.n=x;a.l=b;c.r=-;d.n=x;", "", "0000");
    String before = Check.state(q);
    check.due("moved", Check.entries(q, "000"), 3);
    check.due("state", Check.state(q), before.replaceFirst("at 4 of", "at 7 of"));
  }

  private static void fullBuffer() {
    check.about("a store: if the buffer has 3 stores, the mutator stalls");
    for (String store : new String[] {"a.l=b;", "a.r=b;", "a.l=-;", "a.r=-;", "a.n=x;"}) {
      for (String answers : new String[] {"", "645", "645645", "645645645"}) {
        QuietSweep q = Check.after(0, "a=*;b=*;", "", "00" + answers);
        Check.load(q, 0, "a.n=y;a.n=x;a.n=x;" + store);
        check.due("moved", Check.entries(q, "000"), 3);
        check.due("buffered(0)", q.buffered(0), 3);
        String before = Check.state(q);
        check.due("moved at " + store, Check.entries(q, "00"), 0);
        check.due("state", Check.state(q), before.replaceFirst("stalls 0", "stalls 2"));
        check.due("the oldest store goes, and there is room", Check.entries(q, "200"), 2);
        check.due("buffered(0)", q.buffered(0), 3);
      }
    }
  }

  private static void storeMarksNothingAtRest() {
    check.about("a store: if the status is not REST");
    QuietSweep q = Check.after(0, "a=*;b=*;c=*;a.l=b;", "", "000026");
    Check.load(q, 0, "a.l=c;a.r=c;");
    Check.entries(q, "00");
    check.due("colours with status REST in phase 1", Check.colours(q), "1110");
    QuietSweep r = Check.after(0, "a=*;b=*;c=*;a.l=b;", "", "0000264");
    Check.load(r, 0, "a.l=c;");
    Check.entries(r, "0");
    check.due("colours with status FIRST in phase 1", Check.colours(r), "1220");
    QuietSweep s = Check.after(0, "a=*;b=*;", "", "0064565");
    Check.load(s, 0, "a.l=b;");
    Check.entries(s, "0");
    check.due("status(1) is SECOND", s.status(1), 2);
    check.due("colours with status FIRST in phase 2", Check.colours(s), "1200");
  }

  private static void storeOfAnIntMarksNothing() {
    check.about("a store: if the field is l or r");
    QuietSweep q = Check.after(0, "a=*;b=*;c=*;x=1;a.n=x;", "", "000026450");
    Check.load(q, 0, "x=2;a.n=x;");
    check.due("moved", Check.entries(q, "00"), 2);
    check.due("seen(0, 0, 2)", q.seen(0, 0, 2), 2);
    check.due("colours", Check.colours(q), "1110");
  }

  private static void storeMarksSeenAndStored() {
    check.about("first what the mutator sees in the field is marked and then what is stored");
    for (String field : new String[] {"l", "r"}) {
      QuietSweep q = Check.after(1, "a=*;b=*;c=*;a." + field + "=b;b=-;", "", "00000645");
      check.due("status(0)", q.status(0), 1);
      Check.load(q, 0, "a." + field + "=c;");
      Check.entries(q, "0");
      check.due("colours", Check.colours(q), "12200");
      check.due("the store is not yet in memory", q.field(0, field.equals("l") ? 0 : 1), 1);
    }
    check.about("what is marked with each of 3 stores to one field");
    QuietSweep r = Check.after(2, "a=*;b=*;c=*;d=*;a.l=b;", "", "000002645");
    Check.load(r, 0, "a.l=c;a.l=d;a.l=-;");
    Check.entries(r, "0");
    check.due("colours", Check.colours(r), "122100");
    Check.entries(r, "0");
    check.due("colours", Check.colours(r), "122200");
    Check.entries(r, "0");
    check.due("colours", Check.colours(r), "122200");
    check.due("field(0, 0)", r.field(0, 0), 1);
    check.about("to mark a cell that is GREY or BLACK is nothing");
    QuietSweep s = Check.after(0, "a=*;b=*;", "", "00645645645");
    check.due("colours", Check.colours(s), "2200");
    Check.load(s, 0, "c=*;a.l=b;a.r=c;c.l=c;");
    check.due("moved", Check.entries(s, "0000"), 4);
    check.due("colours", Check.colours(s), "2230");
  }

  private static void storeOfNone() {
    check.about("to mark NONE is nothing");
    for (String store : new String[] {"a.l=-;", "a.r=-;", "a.l=d;", "a.r=d;"}) {
      QuietSweep q = Check.after(0, "a=*;b=*;", "", "00645645");
      Check.load(q, 0, store + "b=a.l;");
      check.due("moved", Check.entries(q, "00"), 2);
      check.due("colours behind " + store, Check.colours(q), "1100");
      check.due("buffered(0)", q.buffered(0), 1);
      check.due("variable(0, 1)", q.variable(0, 1), -1);
    }
  }

  private static void storeGoesBehindTheOthers() {
    check.about("the store is put behind those in the buffer; the oldest store goes to memory");
    QuietSweep q = Check.after(0, "a=*;x=1;a.n=x;x=2;a.n=x;x=3;a.n=x;", "", "0000000");
    for (int k = 1; k <= 3; k++) {
      check.due("moved", Check.entries(q, "2"), 1);
      check.due("field(0, 2)", q.field(0, 2), k);
      check.due("buffered(0)", q.buffered(0), 3 - k);
    }
    check.due("moved", Check.entries(q, "2"), 0);
    Check.load(q, 0, "x=4;a.n=x;x=5;a.n=x;");
    Check.entries(q, "0020002");
    check.due("field(0, 2)", q.field(0, 2), 5);
    check.about("a place in the buffer that was used is used again");
    Check.load(q, 0, "a.l=a;a.r=a;x=6;a.n=x;");
    Check.entries(q, "00002");
    check.due("fields", Check.fields(q, 0), "0 -1 5");
    Check.load(q, 0, "a.l=-;");
    Check.entries(q, "0");
    check.due("buffered(0)", q.buffered(0), 3);
    Check.entries(q, "22");
    check.due("fields", Check.fields(q, 0), "0 0 6");
    Check.entries(q, "2");
    check.due("fields", Check.fields(q, 0), "-1 0 6");
  }

  private static void latestStoreIsSeen() {
    check.about("sees what the latest store of its own buffer to that field of that cell has");
    QuietSweep q = Check.after(0, "a=*;b=*;a.l=a;a.l=b;a.l=-;c=a.l;", "", "000");
    check.due("seen(0, 0, 0)", q.seen(0, 0, 0), 0);
    Check.entries(q, "0");
    check.due("seen(0, 0, 0)", q.seen(0, 0, 0), 1);
    Check.entries(q, "00");
    check.due("a store of NONE is seen as NONE", q.seen(0, 0, 0), -1);
    check.due("variable(0, 2)", q.variable(0, 2), -1);
    Check.entries(q, "2");
    check.due("field(0, 0)", q.field(0, 0), 0);
    check.due("seen(0, 0, 0)", q.seen(0, 0, 0), -1);
  }

  private static void ownBufferIsSeen() {
    check.about("sees .. of its own buffer");
    QuietSweep q = Check.after(0, "a=*;a.l=a;x=5;a.n=x;", "b=*;b.r=b;", "0000111");
    check.due("seen(0, 0, 0)", q.seen(0, 0, 0), 0);
    check.due("seen(1, 0, 0)", q.seen(1, 0, 0), -1);
    check.due("seen(0, 0, 2)", q.seen(0, 0, 2), 5);
    check.due("seen(1, 0, 2)", q.seen(1, 0, 2), 0);
    check.due("seen(1, 1, 1)", q.seen(1, 1, 1), 1);
    check.due("seen(0, 1, 1)", q.seen(0, 1, 1), -1);
  }

  private static void noStoreIsSeenElse() {
    check.about("else what is in memory");
    QuietSweep q = Check.after(0, "a=*;b=*;a.l=b;x=5;b.n=x;a.r=a;", "", "0000002");
    check.due("seen(0, 0, 0) with an empty place", q.seen(0, 0, 0), 1);
    check.due("seen(1, 0, 0)", q.seen(1, 0, 0), 1);
    check.due("another cell", q.seen(0, 0, 2), 0);
    check.due("another field", q.seen(0, 1, 1), -1);
    check.due("a store", q.seen(0, 1, 2), 5);
    check.due("field", q.field(1, 2), 0);
    Check.entries(q, "22");
    check.due("fields", Check.fields(q, 0), "1 0 0");
    check.due("seen(0, 3, 0) of the last cell", q.seen(0, 3, 0), -1);
    check.due("seen(0, 3, 2) of the last cell", q.seen(0, 3, 2), 0);
  }

  private static QuietSweep withOutputs(int count) {
    QuietSweep q = Check.loaded(0, "a=*;x=1;(ay=y+x;!y;)", "");
    q.repeat(0, 2);
    for (int k = 0; k < count; k++) {
      q.repeat(0, 4);
    }
    return q;
  }

  private static void outputFromTheLatest() {
    check.about("output: k-th counted from the latest (0)");
    for (int count : new int[] {1, 15, 16, 17, 31, 32, 33, 48, 49, 100}) {
      QuietSweep q = withOutputs(count);
      check.due("outputs(0)", q.outputs(0), count);
      for (int k = 0; k < 16 && k < count; k++) {
        check.due("output(0, " + k + ") of " + count, q.output(0, k), count - k);
      }
    }
  }

  private static void outputNot0To15() {
    check.about("output: 0 if k is not 0 .. 15");
    QuietSweep q = withOutputs(40);
    check.due("output(0, 0)", q.output(0, 0), 40);
    check.due("output(0, 15)", q.output(0, 15), 25);
    for (int k : new int[] {-1, -16, 16, 17, 31, 32, 39, 40, Integer.MAX_VALUE, Integer.MIN_VALUE}) {
      check.due("output(0, " + k + ")", q.output(0, k), 0);
    }
  }

  private static void notSoManyOutputs() {
    check.about("output: 0 if there were not so many");
    check.due("output(0, 0) of none", new QuietSweep(0).output(0, 0), 0);
    for (int count = 0; count <= 15; count++) {
      QuietSweep q = withOutputs(count);
      check.due("output(0, " + count + ") of " + count, q.output(0, count), 0);
      check.due("output(0, 15) of " + count, q.output(0, 15), 0);
      check.due("output(1, 0)", q.output(1, 0), 0);
    }
    check.due("output(0, 15) of 16", withOutputs(16).output(0, 15), 1);
  }

  private static void variableEdges() {
    check.about("variable: NONE if there is no such variable");
    QuietSweep q = Check.after(0, "a=*;b=a;c=a;d=a;x=7;y=8;z=9;", "", "0000000");
    check.due("variables", Check.variables(q, 0), "0 0 0 0 7 8 9");
    for (int k : new int[] {-1, -4, 7, 8, 9, Integer.MAX_VALUE, Integer.MIN_VALUE}) {
      check.due("variable(0, " + k + ")", q.variable(0, k), -1);
      check.due("variable(1, " + k + ")", q.variable(1, k), -1);
    }
  }

  private static void intsThatLookLikeNone() {
    check.about("an int may be -1 and is no NONE then");
    QuietSweep q = Check.after(0, "a=*;x=1;(ay=y+x;x=x+x;)", "", "00");
    q.repeat(0, 60);
    q.repeat(0, 60);
    q.repeat(0, 8);
    check.due("variable(0, 5)", q.variable(0, 5), -1);
    Check.load(q, 0, "a.n=y;z=a.n;!z;");
    check.due("moved", Check.entries(q, "0002"), 4);
    check.due("variable(0, 6)", q.variable(0, 6), -1);
    check.due("output(0, 0)", q.output(0, 0), -1);
    check.due("field(0, 2)", q.field(0, 2), -1);
    check.due("reached()", q.reached(), 1);
  }

  private static void noSuchMutator() {
    QuietSweep q = Check.after(0, "a=*;x=1;!x;a.n=x;", "b=*;b.n=x;y=2;!y;b=*;", "00001111645");
    for (int m : NO_MUTATORS) {
      check.about("no such mutator: " + m);
      check.due("position: NONE", q.position(m), -1);
      check.due("variable: NONE", q.variable(m, 0), -1);
      check.due("variable: NONE", q.variable(m, 6), -1);
      check.due("status: NONE", q.status(m), -1);
      check.due("buffered: NONE", q.buffered(m), -1);
      check.due("stalls: NONE", q.stalls(m), -1);
      check.due("outputs: NONE", q.outputs(m), -1);
      check.due("output: 0", q.output(m, 0), 0);
      check.due("output: 0", q.output(m, 16), 0);
      check.due("seen: NONE", q.seen(m, 0, 2), -1);
    }
    check.about("the mutators 0 and 1 are there");
    check.due("position", q.position(0) * 10 + q.position(1), 44);
    check.due("status", q.status(0) * 10 + q.status(1), 11);
    check.due("outputs", q.outputs(0) * 10 + q.outputs(1), 11);
    check.due("output", q.output(0, 0) * 10 + q.output(1, 0), 12);
  }

  private static void noSuchCell() {
    check.about("field, seen: NONE if there is no such cell");
    for (int cells : new int[] {0, 1, 6, 7}) {
      QuietSweep q = new QuietSweep(cells);
      for (int cell : new int[] {-1, -2, cells + 4, cells + 5, 12, 32, 33, Integer.MAX_VALUE, Integer.MIN_VALUE}) {
        check.due("field(" + cell + ", 2)", q.field(cell, 2), -1);
        check.due("seen(0, " + cell + ", 2)", q.seen(0, cell, 2), -1);
        check.due("seen(1, " + cell + ", 2)", q.seen(1, cell, 2), -1);
      }
      check.due("field(0, 2)", q.field(0, 2), 0);
      check.due("field(the last, 2)", q.field(cells + 3, 2), 0);
      check.due("seen(0, 0, 2)", q.seen(0, 0, 2), 0);
      check.due("seen(1, the last, 2)", q.seen(1, cells + 3, 2), 0);
    }
  }

  private static void noSuchField() {
    check.about("field, seen: NONE if there is no such field");
    QuietSweep q = Check.after(0, "a=*;b=*;c=*;d=*;a.l=a;a.r=a;", "", "00000022");
    Check.load(q, 0, "b.l=b;b.r=b;");
    Check.entries(q, "0022");
    for (int cell = 0; cell < 4; cell++) {
      for (int k : new int[] {-1, -2, -3, 3, 4, 5, Integer.MAX_VALUE, Integer.MIN_VALUE}) {
        check.due("field(" + cell + ", " + k + ")", q.field(cell, k), -1);
        check.due("seen(0, " + cell + ", " + k + ")", q.seen(0, cell, k), -1);
        check.due("seen(1, " + cell + ", " + k + ")", q.seen(1, cell, k), -1);
      }
    }
    check.due("fields", Check.fields(q, 1), "1 1 0");
  }
}
