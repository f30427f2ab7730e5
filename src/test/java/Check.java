/** What the project's tests share: asking whether an answer is the one that is due, and setting up objects. */
final class Check {
  static final int NONE = QuietSweep.NONE;

  private int asked = 0;
  private int wrong = 0;
  private String about = "";

  void about(String text) {
    about = text;
  }

  void due(String call, long got, long want) {
    asked++;
    if (got != want) {
      wrong++;
      System.out.println(about + ": " + call + " answered " + got + ", due is " + want);
    }
  }

  void due(String call, boolean got, boolean want) {
    due(call, got ? 1 : 0, want ? 1 : 0);
  }

  void end() {
    System.out.println(asked + " answers, " + wrong + " wrong");
    if (wrong != 0 || asked == 0) {
      System.exit(1);
    }
  }

  static void type(QuietSweep q, String text) {
    for (int k = 0; k < text.length(); k++) {
      q.write(text.charAt(k));
    }
  }

  static int load(QuietSweep q, int mutator, String text) {
    type(q, text);
    return q.load(mutator);
  }

  static QuietSweep loaded(int cells, String program0, String program1) {
    QuietSweep q = new QuietSweep(cells);
    load(q, 0, program0);
    load(q, 1, program1);
    return q;
  }

  /** Does entries that are written as digits, one after the other; answers how many moved. */
  static int entries(QuietSweep q, String digits) {
    int moved = 0;
    for (int k = 0; k < digits.length(); k++) {
      moved += q.go(digits.charAt(k) - '0', 1);
    }
    return moved;
  }

  /** Brings the collector from phase 0 to a phase; up to 4, both mutators have answered all before it. */
  static void toPhase(QuietSweep q, int wanted) {
    for (int k = 0; k < 200 && q.phase() != wanted; k++) {
      entries(q, "456");
    }
  }
}
