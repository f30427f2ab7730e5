/** Promises 2 and 3: the text, and what is a program. */
public final class WriteLoadTest {
  private static final Check check = new Check();

  public static void main(String[] args) {
    takesCharacters();
    takesSixtyCharacters();
    takesPrograms();
    refusesOthers();
    emptiesTextInEveryCase();
    keepsAllElse();
    keepsOldProgramIfRefused();
    check.end();
  }

  private static void takesCharacters() {
    for (int c = 0; c <= 400; c++) {
      check.about("promise 2, character " + c);
      QuietSweep q = new QuietSweep(0);
      check.due("write", q.write((char) c), c >= 32 && c <= 126);
      check.due("load", q.load(0), c >= 32 && c <= 126 ? -2 : 0);
    }
    check.due("write 65535", new QuietSweep(0).write((char) 65535), false);
    check.due("write 256 + 'a'", new QuietSweep(0).write((char) (256 + 'a')), false);
  }

  private static void takesSixtyCharacters() {
    check.about("promise 2, sixty characters");
    QuietSweep q = new QuietSweep(0);
    String text = "!x;".repeat(20);
    for (int k = 0; k < 60; k++) {
      check.due("write " + k, q.write(text.charAt(k)), true);
    }
    check.due("write one more", q.write('!'), false);
    check.due("write a wrong one more", q.write('\n'), false);
    check.due("load", q.load(0), 20);
    check.due("write behind load", q.write('!'), true);

    check.about("promise 2, a refused character is not there");
    QuietSweep r = new QuietSweep(0);
    for (int k = 0; k < 4; k++) {
      r.write("a=*;".charAt(k));
      r.write('\t');
      r.write((char) 127);
    }
    check.due("load", r.load(0), 1);
  }

  private static void takesPrograms() {
    takes("", 0);
    for (char r : "abcd".toCharArray()) {
      takes(r + "=*;", 1);
      takes(r + "=-;", 1);
      takes("(" + r + ")", 2);
      for (char s : "abcd".toCharArray()) {
        takes(r + "=" + s + ";", 1);
        for (char f : "lr".toCharArray()) {
          takes(r + "=" + s + "." + f + ";", 1);
          takes(r + "." + f + "=" + s + ";", 1);
          takes(r + "." + f + "=-;", 1);
        }
      }
      for (char i : "xyz".toCharArray()) {
        takes(r + ".n=" + i + ";", 1);
        takes(i + "=" + r + ".n;", 1);
      }
    }
    for (char i : "xyz".toCharArray()) {
      takes("!" + i + ";", 1);
      for (char c : "0123456789xyz".toCharArray()) {
        takes(i + "=" + c + ";", 1);
      }
      for (char j : "xyz".toCharArray()) {
        takes(i + "=" + j + "+y;", 1);
        takes(i + "=x+" + j + ";", 1);
      }
    }
    takes("a=*;(aa=a.l;)!x;", 5);
    takes("(a)(b)(c)", 6);
    takes("(a(b))", 4);
    takes("(a".repeat(6) + ")".repeat(6), 12);
    takes("(a".repeat(6) + "!x;" + ")".repeat(6) + "(b)", 15);
    takes("(a(b(c(d(a(b)(b)))))(c))", 16);
    takes("(a)".repeat(20), 40);
    takes("(d" + "(c)".repeat(19) + ")", 40);
  }

  private static void takes(String text, int due) {
    check.about("promise 3, the program " + text);
    check.due("load(0)", Check.load(new QuietSweep(0), 0, text), due);
    check.due("load(1)", Check.load(new QuietSweep(0), 1, text), due);
  }

  private static void refusesOthers() {
    String[] wrong = {
      " ", ";", "a", "a=", "a=*", "a=*;;", "a=* ;", " a=*;", "a=*; ", "e=*;", "A=*;", "R=*;", "x=*;", "a=+;",
      "a=x;", "x=a;", "x=-;", "a=0;", "a=b.n;", "x=a.l;", "x=a.r;", "a.n=b;", "a.n=-;", "a.n=0;", "a.l=x;", "a.l=0;",
      "a.l=*;", "a.l=b.l;", "a.x=b;", "a=b.x;", "a=b.l", "a.l=b", "x.n=y;", "x=y.n;", "w=0;", "I=0;", "x=10;", "x=;",
      "x=y+;", "x=+y;", "x=y+z", "x=y+1;", "x=1+y;", "x=y-z;", "x=y+a;", "x=a+y;", "x=y+z+x;", "x=/;", "x=:;",
      "!a;", "!0;", "!x", "!;", "x;", "!xy;", "!I;", "x=I;", "a=R;", "x=`;", "a=`;", "a=e;", "x=w;", "x={;",
      "(", ")", "()", "(a", "a)", "(a))", "(a)(", "(a)(b", "(x)", "(e)", "(R)", "(-)", "(0)", "(a;)", "((a))", "(a(b)", ")(a",
      "(aa=*)", "(ab)", "(a!x;", "[a]", "(a" .repeat(7) + ")".repeat(7), "(a".repeat(7), "a=a.l.r;", "a.l.l=b;",
      "a==b;", "a=b,", "a:l=b;", "a=b:l;", "a.L=b;", "a=b.R;", "!x;a", "a=*;b=", "!x;(", "!x;)", "\"", "~",
    };
    for (String text : wrong) {
      check.about("promise 3, no program: " + text);
      check.due("load(0)", Check.load(new QuietSweep(0), 0, text), -2);
    }
    check.about("promise 3, a program that was cut at 60 characters");
    check.due("load(0)", Check.load(new QuietSweep(0), 0, "!x;".repeat(19) + "x=1;"), -2);
    check.due("load(0)", Check.load(new QuietSweep(0), 0, "!x;".repeat(21)), 20);
    check.due("load(0)", Check.load(new QuietSweep(0), 0, "(a" + "!x;".repeat(19) + "!)"), -2);
  }

  private static void emptiesTextInEveryCase() {
    check.about("promise 3, the text is empty then");
    QuietSweep q = new QuietSweep(0);
    check.due("load(0)", Check.load(q, 0, "!x;"), 1);
    check.due("load(0) of nothing", q.load(0), 0);
    check.due("load(0) of no program", Check.load(q, 0, "!x"), -2);
    check.due("load(0) of the rest", Check.load(q, 0, ";"), -2);
    check.due("load(0) of nothing", q.load(0), 0);
    for (int m : new int[] {2, -1, 3, Integer.MAX_VALUE, Integer.MIN_VALUE}) {
      check.due("load(" + m + ")", Check.load(q, m, "!x;!x;"), -1);
      check.due("load(1) of nothing", q.load(1), 0);
      check.due("load(" + m + ") of no program", Check.load(q, m, "!"), -1);
      check.due("load(1) of nothing", q.load(1), 0);
    }
    check.due("load(0) of loops without an end", Check.load(q, 0, "(a(b(c(d(a(b"), -2);
    check.due("load(0) of an end without a loop", Check.load(q, 0, ")"), -2);
    check.due("load(0) of a loop", Check.load(q, 0, "(c)"), 2);
    check.due("code(0, 0)", q.code(0, 0), 15 + 16 * 2 + 256);
    Check.type(q, "x".repeat(60));
    check.due("write to a full text", q.write('x'), false);
    check.due("load(0) of a full text", q.load(0), -2);
    check.due("write", q.write('x'), true);
  }

  private static void keepsAllElse() {
    check.about("promise 3, all else stays");
    QuietSweep q = Check.loaded(0, "a=*;x=5;a.l=a;!x;a.n=x;a.r=a;a.l=-;", "b=*;");
    Check.toPhase(q, 2);
    check.due("repeat(0, 9)", q.repeat(0, 9), 6);
    check.due("position(0)", q.position(0), 6);
    check.due("load(0)", Check.load(q, 0, "!x;!x;"), 2);
    check.due("position(0)", q.position(0), 0);
    check.due("variable(0, 0)", q.variable(0, 0), 0);
    check.due("variable(0, 4)", q.variable(0, 4), 5);
    check.due("status(0)", q.status(0), 1);
    check.due("buffered(0)", q.buffered(0), 3);
    check.due("stalls(0)", q.stalls(0), 3);
    check.due("outputs(0)", q.outputs(0), 1);
    check.due("output(0, 0)", q.output(0, 0), 5);
    check.due("code(0, 1)", q.code(0, 1), 14);
    check.due("code(0, 2)", q.code(0, 2), -1);
    check.due("code(1, 0)", q.code(1, 0), 16);
    check.due("phase()", q.phase(), 2);
    check.due("colour(0)", q.colour(0), 2);
  }

  private static void keepsOldProgramIfRefused() {
    check.about("promise 3, a refused text changes no program");
    QuietSweep q = Check.loaded(0, "x=7;!x;y=x;", "b=*;");
    q.repeat(0, 2);
    check.due("load(0)", Check.load(q, 0, "a=*;b=*;c=*;a=*;("), -2);
    check.due("load(2)", Check.load(q, 2, "a=*;b=*;"), -1);
    check.due("load(-1)", Check.load(q, -1, "a=*;b=*;"), -1);
    check.due("position(0)", q.position(0), 2);
    check.due("code(0, 0)", q.code(0, 0), 10 + 256 * 7);
    check.due("code(0, 2)", q.code(0, 2), 11 + 16);
    check.due("code(0, 3)", q.code(0, 3), -1);
    check.due("code(1, 0)", q.code(1, 0), 16);
    check.due("repeat(0, 2)", q.repeat(0, 2), 1);
  }
}
