/** What the project's tests share: asking whether an answer is the one that is due, and setting up objects. */
final class Check {
  private static final int MOST_TOLD = 100;

  private int asked = 0;
  private int wrong = 0;
  private String about = "";

  void about(String text) {
    about = text;
  }

  void due(String call, long got, long want) {
    asked++;
    if (got != want) {
      wrong++;
      tell(call, got, want);
    }
  }

  private void tell(String call, long got, long want) {
    if (wrong <= MOST_TOLD) {
      System.out.println(about + ": " + call + " answered " + got + ", due is " + want);
    }
  }

  void due(String call, boolean got, boolean want) {
    due(call, got ? 1 : 0, want ? 1 : 0);
  }

  void end() {
    System.out.println(asked + " answers, " + wrong + " wrong");
    if (wrong != 0 || asked == 0) {
      System.exit(1);
    }
  }

  static void type(QuietSweep q, String text) {
    for (int k = 0; k < text.length(); k++) {
      q.write(text.charAt(k));
    }
  }

  static int load(QuietSweep q, int mutator, String text) {
    type(q, text);
    return q.load(mutator);
  }

  static QuietSweep loaded(int cells, String program0, String program1) {
    QuietSweep q = new QuietSweep(cells);
    load(q, 0, program0);
    load(q, 1, program1);
    return q;
  }

  /** Does entries that are written as digits, the first one first; answers how many moved. */
  static int entries(QuietSweep q, String digits) {
    int moved = 0;
    for (int from = 0; from < digits.length(); from += 10) {
      int n = Math.min(10, digits.length() - from);
      int schedule = 0;
      for (int k = 0; k < n; k++) {
        schedule |= (digits.charAt(from + k) - '0') << (3 * k);
      }
      moved += q.go(schedule, n);
    }
    return moved;
  }

  /** Lets both mutators answer whatever is asked and the collector step until it is in a phase. */
  static void toPhase(QuietSweep q, int wanted) {
    for (int k = 0; k < 60 && q.phase() != wanted; k++) {
      entries(q, "456");
    }
  }
}
