/** Promises 7, 8, 11, 12 and 13: what the instructions do with variables, position, stalls and outputs. */
public final class ProgramTest {
  private static final Check check = new Check();
  private static final int[] NO_MUTATORS = {-1, 2, 3, Integer.MAX_VALUE, Integer.MIN_VALUE};

  public static void main(String[] args) {
    cellVariables();
    intVariables();
    sumsWrap();
    loops();
    nestedLoops();
    stallsForCells();
    storesToNothing();
    outputs();
    noSuchMutator();
    check.end();
  }

  private static void variables(QuietSweep q, int m, int... due) {
    for (int k = 0; k < due.length; k++) {
      check.due("variable(" + m + ", " + k + ")", q.variable(m, k), due[k]);
    }
  }

  private static void cellVariables() {
    check.about("promise 8, cells");
    QuietSweep q = Check.loaded(1, "a=*;b=*;c=a;d=b;a=-;b=b;c=a;", "d=*;c=d.l;b=a.r;");
    check.due("repeat(0, 4)", q.repeat(0, 4), 4);
    variables(q, 0, 0, 1, 0, 1, 0, 0, 0);
    variables(q, 1, -1, -1, -1, -1, 0, 0, 0);
    check.due("repeat(0, 4)", q.repeat(0, 4), 3);
    variables(q, 0, -1, 1, -1, 1);
    check.due("repeat(1, 4)", q.repeat(1, 4), 3);
    variables(q, 1, -1, -1, -1, 2);
    check.due("position(0)", q.position(0), 7);
    check.due("position(1)", q.position(1), 3);

    check.about("promise 8, from fields");
    QuietSweep r = Check.loaded(1, "a=*;b=*;c=*;a.l=b;a.r=c;d=a.l;b=a.r;c=a.l;a=b.r;", "");
    r.repeat(0, 60);
    variables(r, 0, -1, 2, 1, 1);

    check.about("promise 8, a field of NONE is NONE");
    QuietSweep s = Check.loaded(1, "a=*;b=*;a=c.l;b=c.r;", "");
    s.repeat(0, 60);
    variables(s, 0, -1, -1, -1, -1);
  }

  private static void intVariables() {
    check.about("promise 8, ints");
    QuietSweep q = Check.loaded(0, "x=9;y=x;z=x+y;x=0;y=z+x;x=y+z;", "z=4;y=3;x=z+y;");
    q.repeat(0, 2);
    variables(q, 0, -1, -1, -1, -1, 9, 9, 0);
    check.due("repeat(0, 9)", q.repeat(0, 9), 4);
    variables(q, 0, -1, -1, -1, -1, 36, 18, 18);
    q.repeat(1, 9);
    variables(q, 1, -1, -1, -1, -1, 7, 3, 4);

    check.about("promise 8, every digit");
    for (int d = 0; d < 10; d++) {
      QuietSweep r = Check.loaded(0, "y=" + d + ";", "");
      r.repeat(0, 1);
      variables(r, 0, -1, -1, -1, -1, 0, d, 0);
    }

    check.about("promise 8, the int of a cell");
    QuietSweep s = Check.loaded(0, "a=*;x=6;a.n=x;y=a.n;z=8;z=b.n;", "x=1;x=a.n;");
    check.due("repeat(0, 60)", s.repeat(0, 60), 6);
    variables(s, 0, 0, -1, -1, -1, 6, 6, 0);
    s.repeat(1, 1);
    variables(s, 1, -1, -1, -1, -1, 1);
    s.repeat(1, 1);
    variables(s, 1, -1, -1, -1, -1, 0);

    check.about("promise 8, no such variable");
    for (int k : new int[] {-1, 7, 8, Integer.MAX_VALUE, Integer.MIN_VALUE}) {
      check.due("variable(0, " + k + ")", s.variable(0, k), -1);
      check.due("variable(1, " + k + ")", s.variable(1, k), -1);
    }
  }

  private static void sumsWrap() {
    check.about("promise 8, sums wrap");
    QuietSweep q = Check.loaded(0, "x=1;a=*;(ax=x+x;)", "");
    q.repeat(0, 2);
    int due = 1;
    for (int k = 0; k < 35; k++) {
      q.repeat(0, 3);
      due += due;
      check.due("variable(0, 4)", q.variable(0, 4), due);
    }
    Check.load(q, 0, "x=9;y=9;(ax=x+y;y=x+y;)");
    q.repeat(0, 2);
    int x = 9;
    int y = 9;
    for (int k = 0; k < 40; k++) {
      q.repeat(0, 4);
      x += y;
      y += x;
      variables(q, 0, 0, -1, -1, -1, x, y);
    }
  }

  private static void loops() {
    check.about("promise 7, a loop that is left");
    QuietSweep q = Check.loaded(0, "a=*;(a!x;a=-;)!y;", "(b!x;)!y;");
    int[] due = {1, 2, 3, 4, 1, 5, 6, 6};
    for (int k = 0; k < due.length; k++) {
      check.due("go", q.go(0, 1), k < 7 ? 1 : 0);
      check.due("position(0)", q.position(0), due[k]);
    }
    check.due("go", q.go(1, 1), 1);
    check.due("position(1)", q.position(1), 3);
    check.due("go", q.go(1, 1), 1);
    check.due("position(1)", q.position(1), 4);
    check.due("go", q.go(1, 1), 0);
    check.due("position(1)", q.position(1), 4);
    check.due("outputs(1)", q.outputs(1), 1);

    check.about("promise 7, an empty loop");
    QuietSweep r = Check.loaded(0, "d=*;(d)!x;", "(d)");
    for (int k = 0; k < 11; k++) {
      check.due("go", r.go(0, 1), 1);
      check.due("position(0)", r.position(0), 1 + k % 2);
    }
    check.due("repeat(1, 5)", r.repeat(1, 5), 1);
    check.due("position(1)", r.position(1), 2);

    check.about("promise 7, TEST looks at its own variable");
    for (int v = 0; v < 4; v++) {
      char name = "abcd".charAt(v);
      QuietSweep s = Check.loaded(0, name + "=*;(" + name + "!x;" + name + "=-;)x=5;", "");
      check.due("repeat(0, 60)", s.repeat(0, 60), 7);
      check.due("position(0)", s.position(0), 6);
    }
  }

  private static void nestedLoops() {
    check.about("promise 7, a list that is walked");
    QuietSweep q = Check.loaded(7, "a=*;b=*;b.l=a;a=*;a.l=b;", "");
    q.repeat(0, 60);
    Check.load(q, 0, "x=1;y=0;(ay=y+x;a=a.l;)!y;");
    q.repeat(0, 60);
    check.due("output(0, 0)", q.output(0, 0), 3);
    check.due("position(0)", q.position(0), 7);

    check.about("promise 7, a loop in a loop");
    QuietSweep r = Check.loaded(7, "x=1;a=*;(ab=a;(by=y+x;b=-;)a=-;)z=y;", "");
    check.due("repeat(0, 60)", r.repeat(0, 60), 13);
    check.due("variable(0, 6)", r.variable(0, 6), 1);
    check.due("position(0)", r.position(0), 11);
  }

  private static void stallsForCells() {
    check.about("promise 11, no cell is FREE");
    QuietSweep q = Check.loaded(0, "a=*;b=*;a=*;a=*;b=*;!x;", "x=3;c=*;");
    check.due("repeat(0, 4)", q.repeat(0, 4), 4);
    check.due("stalls(0)", q.stalls(0), 0);
    for (int k = 1; k <= 5; k++) {
      check.due("go(0, 1)", q.go(0, 1), 0);
      check.due("stalls(0)", q.stalls(0), k);
      check.due("position(0)", q.position(0), 4);
      check.due("variable(0, 1)", q.variable(0, 1), 1);
    }
    check.due("stalls(1)", q.stalls(1), 0);
    check.due("repeat(1, 3)", q.repeat(1, 3), 1);
    check.due("stalls(1)", q.stalls(1), 2);
    check.due("stalls(0)", q.stalls(0), 5);

    check.about("promise 11, it goes on when a cell is FREE again");
    Check.toPhase(q, 6);
    check.due("free()", q.free(), 2);
    check.due("go(0, 1)", q.go(0, 1), 1);
    check.due("stalls(0)", q.stalls(0), 5);
    check.due("variable(0, 1)", q.variable(0, 1), 0);
    check.due("go(1, 1)", q.go(1, 1), 1);
    check.due("variable(1, 2)", q.variable(1, 2), 2);
  }

  private static void storesToNothing() {
    check.about("promises 7 and 11, a store to NONE");
    QuietSweep q = Check.loaded(0, "b=*;a.l=b;a.r=b;a.l=-;a.r=-;a.n=x;", "");
    check.due("repeat(0, 60)", q.repeat(0, 60), 6);
    check.due("position(0)", q.position(0), 6);
    check.due("buffered(0)", q.buffered(0), 0);
    check.due("stalls(0)", q.stalls(0), 0);

    check.about("promises 7 and 11, a store to NONE with a full buffer");
    QuietSweep r = Check.loaded(0, "b=*;b.l=b;b.r=b;b.n=x;a.l=b;a.n=x;b.n=x;", "");
    check.due("repeat(0, 60)", r.repeat(0, 60), 6);
    check.due("position(0)", r.position(0), 6);
    check.due("buffered(0)", r.buffered(0), 3);
    check.due("stalls(0)", r.stalls(0), 54);

    check.about("promise 14, a store to NONE marks nothing");
    QuietSweep s = Check.loaded(0, "b=*;a.l=b;a.r=b;", "");
    s.repeat(0, 1);
    Check.toPhase(s, 2);
    s.repeat(0, 2);
    check.due("colour(0)", s.colour(0), 1);
  }

  private static void outputs() {
    check.about("promises 12 and 13, outputs");
    QuietSweep q = Check.loaded(0, "a=*;x=1;(ay=y+x;!y;)", "z=7;!z;!x;");
    q.repeat(0, 2);
    for (int n = 1; n <= 20; n++) {
      q.repeat(0, 4);
      check.due("outputs(0)", q.outputs(0), n);
      for (int k = 0; k < 18; k++) {
        check.due("output(0, " + k + ") of " + n, q.output(0, k), k < 16 && k < n ? n - k : 0);
      }
    }
    for (int k : new int[] {-1, 16, 17, 32, Integer.MAX_VALUE, Integer.MIN_VALUE}) {
      check.due("output(0, " + k + ")", q.output(0, k), 0);
    }
    check.due("outputs(1)", q.outputs(1), 0);
    check.due("output(1, 0)", q.output(1, 0), 0);
    q.repeat(1, 60);
    check.due("outputs(1)", q.outputs(1), 2);
    check.due("output(1, 0)", q.output(1, 0), 0);
    check.due("output(1, 1)", q.output(1, 1), 7);
    check.due("output(1, 2)", q.output(1, 2), 0);
    check.due("outputs(0)", q.outputs(0), 20);

    check.about("promise 12, many outputs");
    QuietSweep r = Check.loaded(0, "a=*;(a!x;!x;!x;!x;!x;!x;!x;!x;!x;!x;)", "");
    for (int k = 0; k < 300; k++) {
      r.repeat(0, 60);
    }
    check.due("outputs(0)", r.outputs(0), 15000);
  }

  private static void noSuchMutator() {
    QuietSweep q = Check.loaded(0, "a=*;x=1;!x;", "b=*;y=2;!y;");
    q.repeat(0, 9);
    q.repeat(1, 9);
    for (int m : NO_MUTATORS) {
      check.about("no such mutator " + m);
      check.due("position", q.position(m), -1);
      check.due("variable", q.variable(m, 0), -1);
      check.due("variable", q.variable(m, 4), -1);
      check.due("status", q.status(m), -1);
      check.due("buffered", q.buffered(m), -1);
      check.due("stalls", q.stalls(m), -1);
      check.due("outputs", q.outputs(m), -1);
      check.due("output", q.output(m, 0), 0);
      check.due("seen", q.seen(m, 0, 2), -1);
    }
  }
}
