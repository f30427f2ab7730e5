/** Promise 6: every kind of instruction with every variable. */
public final class CodeTest {
  private static final Check check = new Check();
  private static final String CELLS = "abcd";
  private static final String INTS = "xyz";

  public static void main(String[] args) {
    cellKinds();
    intKinds();
    loops();
    noSuch();
    check.end();
  }

  private static void one(String text, int kind, int p, int q, int t) {
    check.about("promise 6, " + text);
    for (int m = 0; m < 2; m++) {
      QuietSweep s = new QuietSweep(0);
      check.due("load", Check.load(s, m, text), 1);
      check.due("code(m, 0)", s.code(m, 0), kind + 16 * p + 64 * q + 256 * t);
      check.due("code(m, 1)", s.code(m, 1), -1);
      check.due("code(other, 0)", s.code(1 - m, 0), -1);
    }
  }

  private static void cellKinds() {
    for (int r = 0; r < 4; r++) {
      char cr = CELLS.charAt(r);
      one(cr + "=*;", 0, r, 0, 0);
      one(cr + "=-;", 1, r, 0, 0);
      one(cr + ".l=-;", 7, r, 0, 0);
      one(cr + ".r=-;", 8, r, 0, 0);
      for (int s = 0; s < 4; s++) {
        char cs = CELLS.charAt(s);
        one(cr + "=" + cs + ";", 2, r, s, 0);
        one(cr + "=" + cs + ".l;", 3, r, s, 0);
        one(cr + "=" + cs + ".r;", 4, r, s, 0);
        one(cr + ".l=" + cs + ";", 5, r, s, 0);
        one(cr + ".r=" + cs + ";", 6, r, s, 0);
      }
      for (int i = 0; i < 3; i++) {
        one(cr + ".n=" + INTS.charAt(i) + ";", 9, r, i, 0);
        one(INTS.charAt(i) + "=" + cr + ".n;", 13, i, r, 0);
      }
    }
  }

  private static void intKinds() {
    for (int i = 0; i < 3; i++) {
      char ci = INTS.charAt(i);
      one("!" + ci + ";", 14, i, 0, 0);
      for (int d = 0; d < 10; d++) {
        one(ci + "=" + d + ";", 10, i, 0, d);
      }
      for (int j = 0; j < 3; j++) {
        one(ci + "=" + INTS.charAt(j) + ";", 11, i, j, 0);
        for (int k = 0; k < 3; k++) {
          one(ci + "=" + INTS.charAt(j) + "+" + INTS.charAt(k) + ";", 12, i, j, k);
        }
      }
    }
  }

  private static void codes(String text, int... due) {
    check.about("promise 6, " + text);
    QuietSweep s = new QuietSweep(0);
    check.due("load", Check.load(s, 1, text), due.length);
    for (int k = 0; k < due.length; k++) {
      check.due("code(1, " + k + ")", s.code(1, k), due[k]);
    }
    check.due("code behind the last", s.code(1, due.length), -1);
  }

  private static int test(int r, int back) {
    return 15 + 16 * r + 256 * back;
  }

  private static int back(int r, int test) {
    return 15 + 16 * r + 64 + 256 * test;
  }

  private static void loops() {
    codes("(a)", test(0, 1), back(0, 0));
    codes("(d)", test(3, 1), back(3, 0));
    codes("(b!x;)!y;", test(1, 2), 14, back(1, 0), 30);
    codes("!z;(c(d)(a!x;))", 46, test(2, 7), test(3, 3), back(3, 2), test(0, 6), 14, back(0, 4), back(2, 1));
    codes("(a(b(c(d(c(b))))))", test(0, 11), test(1, 10), test(2, 9), test(3, 8), test(2, 7), test(1, 6),
        back(1, 5), back(2, 4), back(3, 3), back(2, 2), back(1, 1), back(0, 0));
    codes("(a)(b)", test(0, 1), back(0, 0), test(1, 3), back(1, 2));
    String most = "(d" + "(c)".repeat(19) + ")";
    QuietSweep s = new QuietSweep(0);
    Check.load(s, 0, most);
    check.due("code(0, 0)", s.code(0, 0), test(3, 39));
    check.due("code(0, 39)", s.code(0, 39), back(3, 0));
    check.due("code(0, 38)", s.code(0, 38), back(2, 37));
    check.due("code(0, 40)", s.code(0, 40), -1);
  }

  private static void noSuch() {
    check.about("promise 6, no such mutator or instruction");
    QuietSweep s = Check.loaded(0, "!x;!x;!x;", "!y;");
    check.due("load of a shorter program", Check.load(s, 0, "x=9;"), 1);
    check.due("code(0, 0)", s.code(0, 0), 10 + 256 * 9);
    for (int k : new int[] {1, 2, -1, 59, 60, Integer.MAX_VALUE, Integer.MIN_VALUE}) {
      check.due("code(0, " + k + ")", s.code(0, k), -1);
    }
    for (int m : new int[] {2, -1, Integer.MAX_VALUE, Integer.MIN_VALUE}) {
      check.due("code(" + m + ", 0)", s.code(m, 0), -1);
    }
  }
}
