/** The edges of promises 4 and 5 and of the term THE SCHEDULE: one method for each sentence that names one. */
public final class EdgeScheduleTest {
  private static final Check check = new Check();
  private static final String ENDLESS = "a=*;(a!x;)";

  public static void main(String[] args) {
    goTooFewOrTooMany();
    goOfNone();
    goOfTen();
    goLeavesTheHigherBits();
    goLowestFirst();
    repeatTooFewOrTooMany();
    repeatNoSuchEntry();
    repeatOfNoneAndOfSixty();
    behindTheLastInstruction();
    stallsDoNotMove();
    emptyBuffersDoNotMove();
    answersThatAreNotAskedForDoNotMove();
    collectorThatWaitsDoesNotMove();
    whatOnlyGoesOnMoves();
    mixedEntriesAreCounted();
    theLastOfManyCalls();
    check.end();
  }

  private static void goTooFewOrTooMany() {
    check.about("go: n is 0 .. 10, otherwise nothing is done and -1 answered");
    for (int n : new int[] {-1, -10, 11, 12, 16, 60, Integer.MAX_VALUE, Integer.MIN_VALUE}) {
      QuietSweep q = Check.after(0, ENDLESS, ENDLESS, "0011");
      String before = Check.state(q);
      for (int schedule : new int[] {0, 1, 6, 7, -1, 012345670}) {
        check.due("go(" + schedule + ", " + n + ")", q.go(schedule, n), -1);
      }
      check.due("state", Check.state(q), before);
    }
  }

  private static void goOfNone() {
    check.about("go: n is 0");
    QuietSweep q = Check.after(0, ENDLESS, ENDLESS, "0011");
    String before = Check.state(q);
    for (int schedule : new int[] {0, 1, 6, 7, -1}) {
      check.due("go(" + schedule + ", 0)", q.go(schedule, 0), 0);
    }
    check.due("state", Check.state(q), before);
  }

  private static void goOfTen() {
    check.about("go: n is 10, the tenth are the bits 27 to 29");
    QuietSweep q = Check.loaded(0, "!x;".repeat(20), "!y;".repeat(20));
    check.due("go(1 << 27, 9)", q.go(1 << 27, 9), 9);
    check.due("outputs(1)", q.outputs(1), 0);
    check.due("go(1 << 27, 10)", q.go(1 << 27, 10), 10);
    check.due("outputs(0)", q.outputs(0), 18);
    check.due("outputs(1)", q.outputs(1), 1);
    check.due("go(7 << 27, 10)", q.go(7 << 27, 10), 3);
    check.due("phase()", q.phase(), 1);
  }

  private static void goLeavesTheHigherBits() {
    check.about("go: does n entries, whatever stands in the bits above them");
    QuietSweep q = Check.loaded(0, "!x;".repeat(20), "!y;".repeat(20));
    check.due("go(-8, 1)", q.go(-8, 1), 1);
    check.due("go with the two highest bits, 10", q.go(0xC0000000, 10), 10);
    check.due("go(Integer.MIN_VALUE, 9)", q.go(Integer.MIN_VALUE, 9), 9);
    check.due("outputs(0)", q.outputs(0), 20);
    check.due("phase()", q.phase(), 0);
    check.due("go(-1, 10): all are 7", q.go(-1, 10), 1);
    check.due("outputs(1)", q.outputs(1), 0);
    check.due("phase()", q.phase(), 1);
    check.due("go(0x49249249, 10): all are 1", q.go(0x49249249, 10), 10);
    check.due("outputs(1)", q.outputs(1), 10);
  }

  private static void goLowestFirst() {
    check.about("go: the lowest first");
    QuietSweep q = Check.loaded(0, "a=*;", "b=*;");
    check.due("go(1 then 0, 2)", q.go(1, 2), 2);
    check.due("variable(1, 1)", q.variable(1, 1), 0);
    check.due("variable(0, 0)", q.variable(0, 0), 1);
    QuietSweep r = Check.loaded(0, "a=*;a.n=x;", "");
    check.due("go(2 then 0 then 0, 3)", r.go(2, 3), 2);
    check.due("buffered(0)", r.buffered(0), 1);
    QuietSweep s = Check.loaded(0, "a=*;a.n=x;", "");
    check.due("go(0 then 0 then 2, 3)", s.go(2 << 6, 3), 3);
    check.due("buffered(0)", s.buffered(0), 0);
  }

  private static void repeatTooFewOrTooMany() {
    check.about("repeat: n is 0 .. 60, otherwise nothing is done and -1 answered");
    for (int n : new int[] {-1, -60, 61, 62, 64, 100, Integer.MAX_VALUE, Integer.MIN_VALUE}) {
      QuietSweep q = Check.after(0, ENDLESS, ENDLESS, "0011");
      String before = Check.state(q);
      for (int entry = 0; entry < 8; entry++) {
        check.due("repeat(" + entry + ", " + n + ")", q.repeat(entry, n), -1);
      }
      check.due("state", Check.state(q), before);
    }
  }

  private static void repeatNoSuchEntry() {
    check.about("repeat: entry is 0 .. 7, otherwise nothing is done and -1 answered");
    for (int entry : new int[] {-1, -2, -8, 8, 9, 14, 15, 16, 64, Integer.MAX_VALUE, Integer.MIN_VALUE}) {
      QuietSweep q = Check.after(0, ENDLESS, ENDLESS, "0011");
      String before = Check.state(q);
      for (int n : new int[] {0, 1, 10, 60, -1, 61}) {
        check.due("repeat(" + entry + ", " + n + ")", q.repeat(entry, n), -1);
      }
      check.due("state", Check.state(q), before);
    }
    check.due("repeat(0, 1)", Check.loaded(0, ENDLESS, "").repeat(0, 1), 1);
    check.due("repeat(7, 1)", new QuietSweep(0).repeat(7, 1), 1);
  }

  private static void repeatOfNoneAndOfSixty() {
    check.about("repeat: n is 0 and n is 60");
    QuietSweep q = Check.after(0, ENDLESS, ENDLESS, "0011");
    String before = Check.state(q);
    for (int entry = 0; entry < 8; entry++) {
      check.due("repeat(" + entry + ", 0)", q.repeat(entry, 0), 0);
    }
    check.due("state", Check.state(q), before);
    check.due("repeat(0, 60)", q.repeat(0, 60), 60);
    check.due("outputs(0)", q.outputs(0), 20);
    check.due("repeat(1, 59)", q.repeat(1, 59), 59);
    check.due("outputs(1)", q.outputs(1), 20);
    check.due("repeat(6, 60)", q.repeat(6, 60), 1);
  }

  private static void behindTheLastInstruction() {
    check.about("if the position is behind the last instruction: nothing");
    for (String program : new String[] {"", "x=5;", "!x;!x;", "(b!x;)", "(a)"}) {
      QuietSweep q = Check.loaded(0, program, program);
      q.repeat(0, 60);
      q.repeat(1, 60);
      String before = Check.state(q);
      check.due("go(0, 10) behind " + program, q.go(0, 10), 0);
      check.due("repeat(1, 60) behind " + program, q.repeat(1, 60), 0);
      check.due("state", Check.state(q), before);
      check.due("code(0, position(0))", q.code(0, q.position(0)), -1);
    }
    QuietSweep r = Check.loaded(0, "!x;!x;", "");
    check.due("go(0, 3) with two instructions", r.go(0, 3), 2);
    check.due("position(0)", r.position(0), 2);
    check.due("stalls(0)", r.stalls(0), 0);
  }

  private static void stallsDoNotMove() {
    check.about("an entry that does nothing (but for the count of stalls) does not move");
    QuietSweep q = Check.after(0, "a=*;a=*;a=*;a=*;a=*;", "a=*;", "0000");
    String before = Check.state(q);
    check.due("go(0 1 0 1, 4) without a FREE cell", q.go(0 | 1 << 3 | 0 << 6 | 1 << 9, 4), 0);
    check.due("state", Check.state(q), before.replace("stalls 0", "stalls 2"));
    QuietSweep r = Check.after(0, "a=*;a.n=x;a.n=x;a.n=x;a.n=x;", "", "0000");
    before = Check.state(r);
    check.due("repeat(0, 7) with a full buffer", r.repeat(0, 7), 0);
    check.due("stalls(0)", r.stalls(0), 7);
    check.due("state", Check.state(r), before.replaceFirst("stalls 0", "stalls 7"));
  }

  private static void emptyBuffersDoNotMove() {
    check.about("2, 3: nothing if there is none");
    QuietSweep q = Check.after(0, "a=*;a.n=x;", "b=*;b.l=b;", "000111");
    check.due("repeat(2, 60)", q.repeat(2, 60), 1);
    String before = Check.state(q);
    check.due("repeat(2, 60)", q.repeat(2, 60), 0);
    check.due("state", Check.state(q), before);
    check.due("repeat(3, 60)", q.repeat(3, 60), 1);
    before = Check.state(q);
    check.due("repeat(3, 60)", q.repeat(3, 60), 0);
    check.due("state", Check.state(q), before);
    check.due("2 3 on a new object", Check.entries(new QuietSweep(0), "2323"), 0);
  }

  private static void answersThatAreNotAskedForDoNotMove() {
    check.about("4, 5: if the collector asks for a status that the mutator does not have .. else nothing");
    String store = "a=*;a.n=x;a.l=a;";
    // Each schedule ends where nothing is asked for, or where both have answered; each buffer has a store.
    String[] schedules = {"000111", "64500111", "64564500111", "64564564500111", "64564564560011", "645645645660011",
      "64564564566000111666645001"};
    int[] phases = {0, 1, 2, 3, 4, 5, 6};
    for (int k = 0; k < schedules.length; k++) {
      QuietSweep q = Check.after(0, store, store, schedules[k]);
      if (k == 6) {
        Check.load(q, 0, "a.l=a;");
        Check.load(q, 1, "a.l=a;");
        Check.entries(q, "01");
      }
      check.due("phase()", q.phase(), phases[k]);
      check.due("buffered(0) > 0", q.buffered(0) > 0, true);
      check.due("buffered(1) > 0", q.buffered(1) > 0, true);
      String before = Check.state(q);
      check.due("4 5 4 5 in phase " + phases[k], Check.entries(q, "4545"), 0);
      check.due("state", Check.state(q), before);
    }
  }

  private static void collectorThatWaitsDoesNotMove() {
    check.about("1, 2, 3, 6: if both mutators have that status ..; else nothing");
    String[] before = {"6", "6456", "6456456", "645645645666666"};
    for (String schedule : before) {
      for (String answers : new String[] {"", "4", "5"}) {
        QuietSweep q = Check.after(0, "a=*;", "b=*;", schedule + answers);
        String state = Check.state(q);
        check.due("6 7 behind " + schedule + answers, Check.entries(q, "6767676"), 0);
        check.due("state", Check.state(q), state);
        check.due("both answer and it goes on", Check.entries(q, "456"), answers.isEmpty() ? 3 : 2);
      }
    }
  }

  private static void whatOnlyGoesOnMoves() {
    check.about("an entry moves if it does something, the growing of a position too");
    for (String one : new String[] {"a.l=b;", "a.n=x;", "a=a;", "a=b.l;", "x=x;", "x=a.n;", "a=-;", "(a)", "x=0;", "a.r=-;"}) {
      QuietSweep q = Check.loaded(0, one, "");
      check.due("go(0, 1) at " + one, q.go(0, 1), 1);
      check.due("position(0)", q.position(0), one.equals("(a)") ? 2 : 1);
      check.due("go(0, 1) behind it", q.go(0, 1), 0);
    }
    check.due("an answer with an empty buffer and without cells", Check.entries(new QuietSweep(0), "6454545"), 3);
    check.due("the collector without cells", Check.entries(new QuietSweep(0), "6456456456666664567"), 19);
  }

  private static void mixedEntriesAreCounted() {
    check.about("go, repeat: how many of them moved");
    QuietSweep q = Check.loaded(0, "a=*;", "");
    check.due("go(0 0 1 2 3 4 5 6 7 4)", Check.entries(q, "0012345674"), 3);
    check.due("status(0)", q.status(0), 1);
    check.due("status(1)", q.status(1), 0);
    check.due("phase()", q.phase(), 1);
  }

  private static void theLastOfManyCalls() {
    check.about("an object is used for at most 512 calls, each of which may be the dearest");
    QuietSweep q = Check.loaded(7, "a=*;(a!x;)", "");
    int calls = 12;
    while (calls < 511) {
      check.due("repeat(0, 60)", q.repeat(0, 60), 60);
      calls++;
    }
    check.due("outputs(0), the 512th call", q.outputs(0), (499 * 60) / 3);

    QuietSweep r = new QuietSweep(7);
    Check.type(r, "a=*;(aa=*;)");
    r.load(0);
    check.due("repeat(0, 34)", r.repeat(0, 34), 32);
    for (calls = 13; calls < 511; calls++) {
      check.due("repeat(0, 60)", r.repeat(0, 60), 0);
    }
    check.due("stalls(0), the 512th call", r.stalls(0), 2 + 498 * 60);
  }
}
