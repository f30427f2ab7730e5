/** Promises 10, 15 and 16: stores wait in a buffer, which its own mutator sees and the other does not. */
public final class BufferTest {
  private static final Check check = new Check();

  public static void main(String[] args) {
    waitsInBuffer();
    seesLatestStore();
    passesOldestFirst();
    everyField();
    fullBufferStalls();
    twoBuffers();
    newCellInMemoryOnly();
    answerPassesAll();
    noSuchCellOrField();
    check.end();
  }

  private static void waitsInBuffer() {
    check.about("promises 10 and 15, a store waits");
    QuietSweep q = Check.loaded(0, "a=*;b=*;a.l=b;", "");
    q.repeat(0, 3);
    check.due("buffered(0)", q.buffered(0), 1);
    check.due("buffered(1)", q.buffered(1), 0);
    check.due("field(0, 0)", q.field(0, 0), -1);
    check.due("seen(0, 0, 0)", q.seen(0, 0, 0), 1);
    check.due("seen(1, 0, 0)", q.seen(1, 0, 0), -1);
    check.due("seen(0, 0, 1)", q.seen(0, 0, 1), -1);
    check.due("seen(0, 1, 0)", q.seen(0, 1, 0), -1);
    check.due("seen(0, 0, 2)", q.seen(0, 0, 2), 0);
    check.due("repeat(3, 1)", q.repeat(3, 1), 0);
    check.due("buffered(0)", q.buffered(0), 1);
    check.due("repeat(2, 3)", q.repeat(2, 3), 1);
    check.due("buffered(0)", q.buffered(0), 0);
    check.due("field(0, 0)", q.field(0, 0), 1);
    check.due("seen(0, 0, 0)", q.seen(0, 0, 0), 1);
    check.due("seen(1, 0, 0)", q.seen(1, 0, 0), 1);
  }

  private static void seesLatestStore() {
    check.about("promise 16, the latest store is seen");
    QuietSweep q = Check.loaded(0, "a=*;x=1;a.n=x;x=2;a.n=x;x=3;a.n=x;y=a.n;", "");
    q.repeat(0, 3);
    check.due("seen(0, 0, 2)", q.seen(0, 0, 2), 1);
    q.repeat(0, 2);
    check.due("seen(0, 0, 2)", q.seen(0, 0, 2), 2);
    q.repeat(0, 3);
    check.due("seen(0, 0, 2)", q.seen(0, 0, 2), 3);
    check.due("variable(0, 5)", q.variable(0, 5), 3);
    check.due("seen(1, 0, 2)", q.seen(1, 0, 2), 0);
    for (int k = 1; k <= 3; k++) {
      check.due("go(2, 1)", q.go(2, 1), 1);
      check.due("field(0, 2)", q.field(0, 2), k);
      check.due("seen(0, 0, 2)", q.seen(0, 0, 2), 3);
      check.due("seen(1, 0, 2)", q.seen(1, 0, 2), k);
      check.due("buffered(0)", q.buffered(0), 3 - k);
    }
  }

  private static void passesOldestFirst() {
    check.about("promise 15, the oldest first");
    QuietSweep q = Check.loaded(0, "a=*;b=*;a.l=b;b.r=a;a.l=-;", "");
    q.repeat(0, 60);
    check.due("seen(0, 0, 0)", q.seen(0, 0, 0), -1);
    q.repeat(2, 1);
    check.due("field(0, 0)", q.field(0, 0), 1);
    check.due("field(1, 1)", q.field(1, 1), -1);
    check.due("seen(0, 0, 0)", q.seen(0, 0, 0), -1);
    q.repeat(2, 1);
    check.due("field(0, 0)", q.field(0, 0), 1);
    check.due("field(1, 1)", q.field(1, 1), 0);
    q.repeat(2, 1);
    check.due("field(0, 0)", q.field(0, 0), -1);
    check.due("repeat(2, 1)", q.repeat(2, 1), 0);
  }

  private static void everyField() {
    check.about("promise 15, every store");
    QuietSweep q = Check.loaded(0, "a=*;b=*;c=*;b.l=c;b.r=a;z=8;b.n=z;", "");
    q.repeat(0, 60);
    q.repeat(2, 3);
    check.due("field(1, 0)", q.field(1, 0), 2);
    check.due("field(1, 1)", q.field(1, 1), 0);
    check.due("field(1, 2)", q.field(1, 2), 8);
    Check.load(q, 0, "b.l=-;b.r=-;");
    q.repeat(0, 1);
    q.repeat(2, 1);
    check.due("field(1, 0)", q.field(1, 0), -1);
    check.due("field(1, 1)", q.field(1, 1), 0);
    q.repeat(0, 1);
    q.repeat(2, 1);
    check.due("field(1, 1)", q.field(1, 1), -1);
    Check.load(q, 0, "b.l=d;b.r=b;b.n=x;");
    q.repeat(0, 3);
    q.repeat(2, 3);
    check.due("field(1, 0)", q.field(1, 0), -1);
    check.due("field(1, 1)", q.field(1, 1), 1);
    check.due("field(1, 2)", q.field(1, 2), 0);
  }

  private static void fullBufferStalls() {
    check.about("promises 10 and 11, a full buffer stalls");
    String[] stores = {"a.l=b;", "a.r=b;", "a.l=-;", "a.r=-;", "a.n=y;"};
    for (String store : stores) {
      QuietSweep q = Check.loaded(0, "a=*;b=*;a.n=x;a.n=x;a.n=x;" + store + "!x;", "");
      check.due("repeat(0, 5)", q.repeat(0, 5), 5);
      check.due("buffered(0)", q.buffered(0), 3);
      check.due("stalls(0)", q.stalls(0), 0);
      check.due("repeat(0, 4)", q.repeat(0, 4), 0);
      check.due("stalls(0)", q.stalls(0), 4);
      check.due("position(0)", q.position(0), 5);
      check.due("buffered(0)", q.buffered(0), 3);
      check.due("go(2, 1)", q.go(2, 1), 1);
      check.due("repeat(0, 4)", q.repeat(0, 4), 2);
      check.due("stalls(0)", q.stalls(0), 4);
      check.due("buffered(0)", q.buffered(0), 3);
    }

    check.about("promise 14, a stalled store marks nothing");
    QuietSweep r = Check.loaded(0, "a=*;b=*;a.n=x;a.n=x;a.n=x;a.l=b;", "");
    r.repeat(0, 2);
    Check.toPhase(r, 2);
    r.repeat(0, 10);
    check.due("stalls(0)", r.stalls(0), 7);
    check.due("colour(1)", r.colour(1), 1);
    r.repeat(2, 1);
    r.repeat(0, 1);
    check.due("colour(1)", r.colour(1), 2);
  }

  private static void twoBuffers() {
    check.about("promises 10 and 16, each has its own buffer");
    QuietSweep q = Check.loaded(0, "a=*;x=4;a.n=x;a.l=a;", "b=*;y=5;b.n=y;");
    q.repeat(0, 60);
    q.repeat(1, 60);
    check.due("buffered(0)", q.buffered(0), 2);
    check.due("buffered(1)", q.buffered(1), 1);
    check.due("seen(0, 0, 2)", q.seen(0, 0, 2), 4);
    check.due("seen(0, 1, 2)", q.seen(0, 1, 2), 0);
    check.due("seen(1, 0, 2)", q.seen(1, 0, 2), 0);
    check.due("seen(1, 1, 2)", q.seen(1, 1, 2), 5);
    check.due("go(3, 1)", q.go(3, 1), 1);
    check.due("buffered(0)", q.buffered(0), 2);
    check.due("buffered(1)", q.buffered(1), 0);
    check.due("seen(0, 1, 2)", q.seen(0, 1, 2), 5);
    check.due("seen(1, 0, 2)", q.seen(1, 0, 2), 0);
    check.due("go(2, 1)", q.go(2, 1), 1);
    check.due("buffered(0)", q.buffered(0), 1);
    check.due("seen(1, 0, 2)", q.seen(1, 0, 2), 4);
    check.due("seen(1, 0, 0)", q.seen(1, 0, 0), -1);
  }

  private static void newCellInMemoryOnly() {
    check.about("promise 15, a new cell");
    QuietSweep q = Check.loaded(0, "a=*;b=*;a.l=b;a.r=b;x=7;a.n=x;a=-;b=-;", "");
    q.repeat(0, 60);
    q.repeat(2, 3);
    Check.toPhase(q, 6);
    check.due("free()", q.free(), 4);
    check.due("a cell that is given back keeps l", q.field(0, 0), 1);
    check.due("a cell that is given back keeps r", q.field(0, 1), 1);
    check.due("a cell that is given back keeps n", q.field(0, 2), 7);
    check.due("seen(1, 0, 2)", q.seen(1, 0, 2), 7);
    Check.load(q, 1, "d=*;");
    q.repeat(1, 1);
    check.due("variable(1, 3)", q.variable(1, 3), 0);
    check.due("a new cell has l", q.field(0, 0), -1);
    check.due("a new cell has r", q.field(0, 1), -1);
    check.due("a new cell has n", q.field(0, 2), 0);
  }

  private static void answerPassesAll() {
    check.about("promise 10, an answer passes all stores");
    QuietSweep q = Check.loaded(0, "a=*;b=*;a.l=b;a.l=-;a.l=a;", "c=*;x=4;c.n=x;");
    q.repeat(0, 60);
    q.repeat(1, 60);
    check.due("repeat(4, 1) in phase 0", q.repeat(4, 1), 0);
    check.due("buffered(0)", q.buffered(0), 3);
    q.go(6, 1);
    check.due("repeat(4, 1)", q.repeat(4, 1), 1);
    check.due("buffered(0)", q.buffered(0), 0);
    check.due("buffered(1)", q.buffered(1), 1);
    check.due("field(0, 0)", q.field(0, 0), 0);
    check.due("field(2, 2)", q.field(2, 2), 0);
    check.due("repeat(5, 1)", q.repeat(5, 1), 1);
    check.due("field(2, 2)", q.field(2, 2), 4);
    check.due("buffered(1)", q.buffered(1), 0);
    check.due("repeat(2, 1)", q.repeat(2, 1), 0);

    check.about("promise 10, an answer that is none passes no store");
    Check.load(q, 0, "a.l=-;");
    q.repeat(0, 1);
    check.due("repeat(4, 1)", q.repeat(4, 1), 0);
    check.due("buffered(0)", q.buffered(0), 1);
    check.due("field(0, 0)", q.field(0, 0), 0);
  }

  private static void noSuchCellOrField() {
    check.about("promises 15 and 16, no such cell or field");
    QuietSweep q = Check.loaded(0, "a=*;a=*;a=*;a=*;x=5;a.n=x;", "");
    q.repeat(0, 60);
    q.repeat(2, 1);
    check.due("field(3, 2)", q.field(3, 2), 5);
    for (int wrong : new int[] {-1, 4, 5, 100, Integer.MAX_VALUE, Integer.MIN_VALUE}) {
      check.due("field(" + wrong + ", 2)", q.field(wrong, 2), -1);
      check.due("seen(0, " + wrong + ", 2)", q.seen(0, wrong, 2), -1);
      check.due("colour(" + wrong + ")", q.colour(wrong), -1);
    }
    for (int wrong : new int[] {-1, 3, 4, Integer.MAX_VALUE, Integer.MIN_VALUE}) {
      check.due("field(2, " + wrong + ")", q.field(2, wrong), -1);
      check.due("seen(0, 2, " + wrong + ")", q.seen(0, 2, wrong), -1);
    }
    check.about("promises 15 and 16, a field that is none is not one of the next cell");
    QuietSweep r = Check.loaded(0, "a=*;b=*;b.l=a;b.r=b;", "");
    r.repeat(0, 60);
    r.repeat(2, 2);
    check.due("field(0, 3)", r.field(0, 3), -1);
    check.due("field(0, 4)", r.field(0, 4), -1);
    check.due("seen(0, 0, 3)", r.seen(0, 0, 3), -1);
    check.due("seen(1, 0, 4)", r.seen(1, 0, 4), -1);
    check.due("field(2, -1)", r.field(2, -1), -1);
    check.due("seen(0, 2, -2)", r.seen(0, 2, -2), -1);

    check.about("promise 16, no such mutator");
    check.due("seen(2, 3, 2)", q.seen(2, 3, 2), -1);
    check.due("seen(-1, 3, 2)", q.seen(-1, 3, 2), -1);
    check.due("seen(1, 3, 2)", q.seen(1, 3, 2), 5);
  }
}
