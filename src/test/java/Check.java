/** What the project's tests share: asking whether an answer is the one that is due, and setting up objects. */
final class Check {
  private static final int MOST_TOLD = 100;

  private int asked = 0;
  private int wrong = 0;
  private String about = "";

  void about(String text) {
    about = text;
  }

  void due(String call, long got, long want) {
    asked++;
    if (got != want) {
      wrong++;
      tell(call, got, want);
    }
  }

  private void tell(String call, long got, long want) {
    if (wrong <= MOST_TOLD) {
      System.out.println(about + ": " + call + " answered " + got + ", due is " + want);
    }
  }

  void due(String call, boolean got, boolean want) {
    due(call, got ? 1 : 0, want ? 1 : 0);
  }

  void due(String call, String got, String want) {
    asked++;
    if (!got.equals(want)) {
      wrong++;
      if (wrong <= MOST_TOLD) {
        System.out.println(about + ": " + call + "\n  answered " + got + "\n  due is   " + want);
      }
    }
  }

  void end() {
    System.out.println(asked + " answers, " + wrong + " wrong");
    if (wrong != 0 || asked == 0) {
      System.exit(1);
    }
  }

  static void type(QuietSweep q, String text) {
    for (int k = 0; k < text.length(); k++) {
      q.write(text.charAt(k));
    }
  }

  static int load(QuietSweep q, int mutator, String text) {
    type(q, text);
    return q.load(mutator);
  }

  static QuietSweep loaded(int cells, String program0, String program1) {
    QuietSweep q = new QuietSweep(cells);
    load(q, 0, program0);
    load(q, 1, program1);
    return q;
  }

  /** Does entries that are written as digits, the first one first; answers how many moved. */
  static int entries(QuietSweep q, String digits) {
    int moved = 0;
    for (int from = 0; from < digits.length(); from += 10) {
      int n = Math.min(10, digits.length() - from);
      int schedule = 0;
      for (int k = 0; k < n; k++) {
        schedule |= (digits.charAt(from + k) - '0') << (3 * k);
      }
      moved += q.go(schedule, n);
    }
    return moved;
  }

  /** A new object whose programs are loaded and whose schedule, written as digits, is done. */
  static QuietSweep after(int cells, String program0, String program1, String digits) {
    QuietSweep q = loaded(cells, program0, program1);
    entries(q, digits);
    return q;
  }

  static String colours(QuietSweep q) {
    StringBuilder text = new StringBuilder();
    for (int cell = 0; q.colour(cell) != -1; cell++) {
      text.append(q.colour(cell));
    }
    return text.toString();
  }

  /** The variables a b c d x y z of a mutator. */
  static String variables(QuietSweep q, int mutator) {
    StringBuilder text = new StringBuilder();
    for (int k = 0; k < 7; k++) {
      text.append(k == 0 ? "" : " ").append(q.variable(mutator, k));
    }
    return text.toString();
  }

  /** The fields l r n of a cell, as they are in memory. */
  static String fields(QuietSweep q, int cell) {
    return q.field(cell, 0) + " " + q.field(cell, 1) + " " + q.field(cell, 2);
  }

  /** All that the reading calls tell but the programs; with four cells it takes fewer than 90 calls. */
  static String state(QuietSweep q) {
    StringBuilder text = new StringBuilder();
    text.append("phase ").append(q.phase()).append(" cycles ").append(q.cycles());
    text.append(" free ").append(q.free()).append(" reached ").append(q.reached());
    String colours = colours(q);
    text.append(" colours ").append(colours);
    for (int cell = 0; cell < colours.length(); cell++) {
      text.append(" | ").append(fields(q, cell)).append(q.reaches(cell) ? " r" : "");
    }
    for (int m = 0; m < 2; m++) {
      text.append(" || at ").append(q.position(m)).append(" of ").append(q.code(m, 0)).append(' ').append(q.code(m, 1));
      text.append(" has ").append(variables(q, m)).append(" status ").append(q.status(m));
      text.append(" buffered ").append(q.buffered(m)).append(" stalls ").append(q.stalls(m));
      text.append(" outputs ").append(q.outputs(m)).append(' ').append(q.output(m, 0)).append(' ').append(q.output(m, 1));
      for (int cell = 0; cell < colours.length(); cell++) {
        text.append(" | ").append(q.seen(m, cell, 0)).append(' ').append(q.seen(m, cell, 1));
        text.append(' ').append(q.seen(m, cell, 2));
      }
    }
    return text.toString();
  }

  /** Lets both mutators answer whatever is asked and the collector step until it is in a phase. */
  static void toPhase(QuietSweep q, int wanted) {
    for (int k = 0; k < 60 && q.phase() != wanted; k++) {
      entries(q, "456");
    }
  }
}
