/** Promises 4 and 5: which entries are done, in which order, and how many moved. */
public final class ScheduleTest {
  private static final Check check = new Check();

  public static void main(String[] args) {
    lowestFirst();
    onlySoMany();
    allTen();
    wrongNumbers();
    repeats();
    stallsDoNotMove();
    bothCollectorEntries();
    check.end();
  }

  private static int schedule(String octal) {
    int bits = 0;
    for (int k = octal.length() - 1; k >= 0; k--) {
      bits = bits * 8 + octal.charAt(k) - '0';
    }
    return bits;
  }

  private static void lowestFirst() {
    check.about("promise 4, the lowest first");
    QuietSweep q = Check.loaded(0, "a=*;", "b=*;");
    check.due("go(1 then 0)", q.go(schedule("10"), 2), 2);
    check.due("variable(1, 1)", q.variable(1, 1), 0);
    check.due("variable(0, 0)", q.variable(0, 0), 1);
    check.due("go(0 and 1 at the end)", q.go(schedule("01"), 2), 0);
  }

  private static void onlySoMany() {
    check.about("promise 4, only n of them");
    QuietSweep q = Check.loaded(0, "!x;".repeat(20), "!y;");
    check.due("go(0, 0)", q.go(0, 0), 0);
    check.due("outputs(0)", q.outputs(0), 0);
    check.due("go(0, 1)", q.go(0, 1), 1);
    check.due("outputs(0)", q.outputs(0), 1);
    check.due("go(0, 7)", q.go(0, 7), 7);
    check.due("outputs(0)", q.outputs(0), 8);
    check.due("go(1 behind, 2)", q.go(schedule("001"), 2), 2);
    check.due("outputs(1)", q.outputs(1), 0);
    check.due("position(0)", q.position(0), 10);
  }

  private static void allTen() {
    check.about("promise 4, all ten");
    QuietSweep q = Check.loaded(0, "!x;".repeat(20), "!y;".repeat(20));
    check.due("go(ten)", q.go(schedule("0101010101"), 10), 10);
    check.due("outputs(0)", q.outputs(0), 5);
    check.due("outputs(1)", q.outputs(1), 5);
    check.due("go(the tenth is 1)", q.go(schedule("0000000001"), 10), 10);
    check.due("outputs(0)", q.outputs(0), 14);
    check.due("outputs(1)", q.outputs(1), 6);
    check.due("go with the two highest bits", q.go(0xC0000000, 10), 6);
    check.due("outputs(0)", q.outputs(0), 20);
    check.due("go(-1, 10)", q.go(-1, 10), 1);
    check.due("phase()", q.phase(), 1);
    check.due("go(Integer.MIN_VALUE, 10)", q.go(Integer.MIN_VALUE, 10), 0);
  }

  private static void wrongNumbers() {
    check.about("promises 4 and 5, wrong numbers");
    QuietSweep q = Check.loaded(0, "!x;".repeat(20), "");
    for (int n : new int[] {-1, 11, 12, 60, Integer.MAX_VALUE, Integer.MIN_VALUE}) {
      check.due("go(0, " + n + ")", q.go(0, n), -1);
    }
    for (int n : new int[] {-1, 61, 62, Integer.MAX_VALUE, Integer.MIN_VALUE}) {
      check.due("repeat(0, " + n + ")", q.repeat(0, n), -1);
    }
    for (int entry : new int[] {-1, 8, 9, 16, Integer.MAX_VALUE, Integer.MIN_VALUE}) {
      check.due("repeat(" + entry + ", 1)", q.repeat(entry, 1), -1);
      check.due("repeat(" + entry + ", 0)", q.repeat(entry, 0), -1);
    }
    check.due("outputs(0)", q.outputs(0), 0);
    check.due("position(0)", q.position(0), 0);
    check.due("phase()", q.phase(), 0);
  }

  private static void repeats() {
    check.about("promise 5, repeat");
    QuietSweep q = Check.loaded(0, "a=*;(a!x;)", "b=*;(b!y;)");
    check.due("repeat(0, 0)", q.repeat(0, 0), 0);
    check.due("position(0)", q.position(0), 0);
    check.due("repeat(0, 60)", q.repeat(0, 60), 60);
    check.due("outputs(0)", q.outputs(0), 20);
    check.due("outputs(1)", q.outputs(1), 0);
    check.due("repeat(1, 6)", q.repeat(1, 6), 6);
    check.due("outputs(1)", q.outputs(1), 2);
    check.due("repeat(2, 5)", q.repeat(2, 5), 0);
    check.due("repeat(3, 5)", q.repeat(3, 5), 0);
    check.due("repeat(4, 5)", q.repeat(4, 5), 0);
    check.due("repeat(5, 5)", q.repeat(5, 5), 0);
    check.due("repeat(6, 5)", q.repeat(6, 5), 1);
    check.due("repeat(5, 5)", q.repeat(5, 5), 1);
    check.due("status(0)", q.status(0), 0);
    check.due("status(1)", q.status(1), 1);
    check.due("repeat(4, 5)", q.repeat(4, 5), 1);
    check.due("status(0)", q.status(0), 1);
    check.due("repeat(7, 5)", q.repeat(7, 5), 1);
    check.due("phase()", q.phase(), 2);
  }

  private static void stallsDoNotMove() {
    check.about("promises 4 and 5, a stall does not move");
    QuietSweep q = Check.loaded(0, "a=*;a=*;a=*;a=*;a=*;", "c=*;");
    check.due("go(0, 10)", q.go(0, 10), 4);
    check.due("stalls(0)", q.stalls(0), 6);
    check.due("repeat(1, 3)", q.repeat(1, 3), 0);
    check.due("stalls(1)", q.stalls(1), 3);
    check.due("repeat(0, 60)", q.repeat(0, 60), 0);
    check.due("stalls(0)", q.stalls(0), 66);
    check.due("position(0)", q.position(0), 4);
  }

  private static void bothCollectorEntries() {
    check.about("promises 4 and 5, 6 and 7 are the collector");
    QuietSweep q = new QuietSweep(0);
    check.due("go(7, 1)", q.go(7, 1), 1);
    check.due("phase()", q.phase(), 1);
    check.due("go(4 5 6)", q.go(schedule("456"), 3), 3);
    check.due("phase()", q.phase(), 2);
    check.due("go(4 5 7)", q.go(schedule("457"), 3), 3);
    check.due("phase()", q.phase(), 3);
    check.due("go(4 5 6 7 6 7 6 7)", q.go(schedule("45676767"), 8), 8);
    check.due("phase()", q.phase(), 6);
  }
}
