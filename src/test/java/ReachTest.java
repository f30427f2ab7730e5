/** Promises 20 and 21: which cells are REACHED. */
public final class ReachTest {
  private static final Check check = new Check();

  public static void main(String[] args) {
    fromEveryVariable();
    fromBuffers();
    intsReachNothing();
    throughMemory();
    notThroughWhatIsOnlySeen();
    longChain();
    rings();
    noSuchCell();
    check.end();
  }

  private static void reached(QuietSweep q, String due) {
    int count = 0;
    for (int cell = 0; cell < due.length(); cell++) {
      check.due("reaches(" + cell + ")", q.reaches(cell), due.charAt(cell) == '1');
      count += due.charAt(cell) - '0';
    }
    check.due("reached()", q.reached(), count);
  }

  private static void fromEveryVariable() {
    check.about("promises 20 and 21, variables");
    for (int m = 0; m < 2; m++) {
      for (char name : "abcd".toCharArray()) {
        QuietSweep q = new QuietSweep(0);
        Check.load(q, m, name + "=*;" + name + "=*;");
        reached(q, "0000");
        q.go(m, 1);
        reached(q, "1000");
        q.go(m, 1);
        reached(q, "0100");
      }
    }
    QuietSweep q = Check.loaded(7, "a=*;b=*;c=*;d=*;", "a=*;b=*;c=*;d=*;d=a;");
    q.repeat(0, 60);
    q.repeat(1, 60);
    reached(q, "11111110000");
  }

  private static void fromBuffers() {
    for (String field : new String[] {"l", "r"}) {
      check.about("promises 20 and 21, a store to " + field + " in a buffer");
      QuietSweep q = Check.loaded(0, "a=*;b=*;a." + field + "=b;b=-;a=-;", "");
      q.repeat(0, 3);
      reached(q, "1100");
      q.repeat(0, 1);
      reached(q, "1100");
      q.repeat(0, 1);
      reached(q, "1100");
      q.repeat(2, 1);
      reached(q, "0000");
    }
    check.about("promises 20 and 21, a store of NONE");
    QuietSweep r = Check.loaded(0, "", "a=*;a=*;a.l=-;a=-;");
    r.repeat(1, 60);
    reached(r, "0100");
    r.repeat(3, 1);
    reached(r, "0000");

    check.about("promises 20 and 21, every store of a buffer");
    QuietSweep s = Check.loaded(2, "a=*;b=*;c=*;d=*;a.l=b;c.l=d;a.n=x;a=-;b=-;c=-;d=-;", "");
    s.repeat(0, 60);
    reached(s, "111100");
    s.repeat(2, 1);
    reached(s, "111100");
    s.repeat(2, 1);
    reached(s, "110000");
    s.repeat(2, 1);
    reached(s, "000000");
  }

  private static void intsReachNothing() {
    check.about("promises 20 and 21, an int is no cell");
    QuietSweep q = Check.loaded(0, "a=*;a=*;b=*;x=1;b.n=x;b=-;a=-;", "");
    q.repeat(0, 60);
    reached(q, "0010");
    q.repeat(2, 1);
    reached(q, "0000");
    Check.load(q, 0, "a=*;x=1;a.n=x;");
    q.repeat(0, 60);
    q.repeat(2, 1);
    reached(q, "0001");
  }

  private static void throughMemory() {
    check.about("promises 20 and 21, fields in memory");
    QuietSweep q = Check.loaded(0, "a=*;b=*;c=*;a.l=b;a.r=c;b=-;c=-;", "");
    q.repeat(0, 60);
    reached(q, "1110");
    q.repeat(2, 2);
    reached(q, "1110");
    Check.load(q, 0, "a.l=-;");
    q.repeat(0, 1);
    reached(q, "1110");
    q.repeat(2, 1);
    reached(q, "1010");
  }

  private static void notThroughWhatIsOnlySeen() {
    check.about("promises 20 and 21, memory counts until the store is there");
    QuietSweep q = Check.loaded(0, "a=*;b=*;c=*;a.l=b;", "");
    q.repeat(0, 60);
    q.repeat(2, 1);
    Check.load(q, 0, "a.l=c;b=-;c=-;");
    q.repeat(0, 60);
    reached(q, "1110");
    q.repeat(2, 1);
    reached(q, "1010");
  }

  private static void longChain() {
    check.about("promises 20 and 21, a chain of all cells");
    QuietSweep q = Check.loaded(7, "a=*;", "");
    q.repeat(0, 1);
    // Each new cell points to the one before, so the chain runs from the greatest number down.
    for (int k = 0; k < 10; k++) {
      Check.load(q, 0, k % 2 == 0 ? "b=*;b.l=a;a=b;b=-;" : "b=*;b.r=a;a=b;b=-;");
      q.repeat(0, 4);
      q.repeat(2, 1);
    }
    reached(q, "11111111111");
    Check.load(q, 0, "a=-;");
    q.repeat(0, 1);
    reached(q, "00000000000");

    check.about("promises 20 and 21, a chain that runs up");
    QuietSweep r = Check.loaded(7, "a=*;b=a;", "");
    r.repeat(0, 2);
    for (int k = 0; k < 10; k++) {
      Check.load(r, 0, "c=*;b.r=c;b=c;c=-;");
      r.repeat(0, 4);
      r.repeat(2, 1);
    }
    Check.load(r, 0, "b=-;");
    r.repeat(0, 1);
    reached(r, "11111111111");
    Check.load(r, 0, "a=a.r;a=a.r;a=a.r;");
    r.repeat(0, 3);
    reached(r, "00011111111");
  }

  private static void rings() {
    check.about("promises 20 and 21, a ring");
    QuietSweep q = Check.loaded(0, "a=*;b=*;a.l=b;b.l=a;b=-;a=-;", "");
    q.repeat(0, 60);
    q.repeat(2, 1);
    reached(q, "1100");
    q.repeat(2, 1);
    reached(q, "0000");
    check.about("promises 20 and 21, a cell that has itself");
    QuietSweep r = Check.loaded(0, "a=*;a.l=a;a.r=a;", "");
    r.repeat(0, 60);
    r.repeat(2, 2);
    reached(r, "1000");
  }

  private static void noSuchCell() {
    check.about("promise 21, no such cell");
    QuietSweep q = Check.loaded(0, "a=*;b=*;c=*;d=*;", "");
    q.repeat(0, 60);
    for (int wrong : new int[] {-1, -32, 4, 5, 31, 32, 33, 64, Integer.MAX_VALUE, Integer.MIN_VALUE}) {
      check.due("reaches(" + wrong + ")", q.reaches(wrong), false);
    }
    reached(q, "1111");
  }
}
