/** The edges of promises 1, 2, 3 and 6 and of the term PROGRAMS: one method for each sentence that names one. */
public final class EdgeTextTest {
  private static final Check check = new Check();
  private static final int[] NO_MUTATORS = {-1, 2, 3, 256, Integer.MAX_VALUE, Integer.MIN_VALUE};
  private static final String[] STATEMENTS = {
    "a=*;", "b=-;", "c=d;", "d=a.l;", "a=b.r;", "b.l=c;", "c.r=d;", "d.l=-;", "a.r=-;", "b.n=x;",
    "x=0;", "y=9;", "z=x;", "x=y+z;", "y=c.n;", "!z;", "(a)", "(b!x;)",
  };

  public static void main(String[] args) {
    fewestAndMostCells();
    sixtyCharactersAreThere();
    codeIsNot32To126();
    refusedCharacterChangesNothing();
    textIsEmptyInEveryCase();
    positionBecomesZero();
    noSuchMutator();
    noMutatorAndNoProgram();
    refusedTextLeavesTheProgram();
    rowOfNoStatements();
    longestPrograms();
    withoutBlanks();
    variablesNextToTheOnesNamed();
    digitsNextToTheOnesNamed();
    statementsThatAreCutShort();
    fullTextsThatAreCutShort();
    loopsAtMostSixDeep();
    loopInNoOtherIsOneDeep();
    loopsWithoutStatements();
    loopsWithoutEndOrBeginning();
    codeOfNoInstruction();
    codeOfNoMutator();
    codeOfTheFarthestLoop();
    codeOfWhatIsNotNamed();
    check.end();
  }

  private static void fewestAndMostCells() {
    check.about("C is 4 + the lowest three bits of cells, 11 at most (4 .. 11)");
    int[] given = {0, 7, 8, 9, 15, 16, 11, -1, -8, -9, Integer.MAX_VALUE, Integer.MIN_VALUE};
    int[] due = {4, 11, 4, 5, 11, 4, 7, 11, 4, 11, 11, 4};
    for (int k = 0; k < given.length; k++) {
      QuietSweep q = Check.loaded(given[k], "a=*;(aa=*;)", "");
      check.due("free() of " + given[k], q.free(), due[k]);
      check.due("colours of " + given[k], Check.colours(q), "0".repeat(due[k]));
      check.due("the last cell has l", q.field(due[k] - 1, 0), -1);
      check.due("the last cell has n", q.field(due[k] - 1, 2), 0);
      check.due("no cell behind has n", q.field(due[k], 2), -1);
      q.repeat(0, 60);
      check.due("the last cell that is made of " + given[k], q.variable(0, 0), due[k] - 1);
      check.due("it stalls behind that", q.stalls(0) > 0, true);
    }
  }

  private static void sixtyCharactersAreThere() {
    check.about("write: false if 60 are there");
    QuietSweep q = new QuietSweep(0);
    Check.type(q, "!x;".repeat(19) + "!x");
    check.due("the 60th", q.write(';'), true);
    check.due("the 61st", q.write(';'), false);
    check.due("the 62nd", q.write('!'), false);
    check.due("one that is refused in any case", q.write((char) 31), false);
    check.due("load(0): the 61st is not there", q.load(0), 20);
    check.due("write when the text is empty again", q.write('!'), true);
  }

  private static void codeIsNot32To126() {
    check.about("write: false if its code is not 32 .. 126");
    QuietSweep q = new QuietSweep(0);
    for (int c : new int[] {0, 9, 10, 31, 127, 128, 255, 256, 256 + 'a', 32768, 65504, 65535}) {
      check.due("write " + c, q.write((char) c), false);
    }
    for (int c : new int[] {32, 33, 125, 126}) {
      check.due("write " + c, q.write((char) c), true);
    }
  }

  private static void refusedCharacterChangesNothing() {
    check.about("write: one that is refused does not stand in the text and takes no room in it");
    QuietSweep q = new QuietSweep(0);
    for (int k = 0; k < 60; k++) {
      q.write((char) 31);
      check.due("write " + k, q.write("(b)".charAt(k % 3)), true);
      q.write((char) 127);
    }
    check.due("load(1)", q.load(1), 40);
  }

  private static void textIsEmptyInEveryCase() {
    check.about("load: the text, which is empty then in every case");
    QuietSweep q = new QuietSweep(0);
    check.due("load(0) of a program", Check.load(q, 0, "a=*;"), 1);
    check.due("load(0) then", q.load(0), 0);
    check.due("load(0) of no program", Check.load(q, 0, "a=*"), -2);
    check.due("load(0) then", q.load(0), 0);
    check.due("load(2) of a program", Check.load(q, 2, "a=*;"), -1);
    check.due("load(0) then", q.load(0), 0);
    check.due("load(-1) of no program", Check.load(q, -1, "a=*"), -1);
    check.due("load(1) then", q.load(1), 0);
    check.due("load(0) of the empty text", q.load(0), 0);
    check.due("load(2) of the empty text", q.load(2), -1);
    check.due("load(0) then", q.load(0), 0);
    Check.type(q, "(".repeat(60));
    check.due("load(0) of a full text", q.load(0), -2);
    Check.type(q, "!y;".repeat(20));
    check.due("load(0) of a full text again", q.load(0), 20);
  }

  private static void positionBecomesZero() {
    check.about("load: whose position becomes 0 (all else of it stays)");
    QuietSweep q = Check.after(0, "a=*;x=7;a.n=x;!x;a.l=a;a.r=a;a.l=a;", "b=*;", "0000000001");
    String before = Check.state(q);
    check.due("load(0) of a shorter program", Check.load(q, 0, "a=*;x=7;"), 2);
    check.due("state", Check.state(q), before.replace("at 6 of 0 1802", "at 0 of 0 1802"));
    check.due("position(0)", q.position(0), 0);
    check.due("position(1)", q.position(1), 1);
    check.due("stalls(0)", q.stalls(0), 3);
  }

  private static void noSuchMutator() {
    check.about("load: -1 if there is no such mutator");
    for (int m : NO_MUTATORS) {
      QuietSweep q = Check.loaded(0, "!x;", "!y;");
      check.due("load(" + m + ")", Check.load(q, m, "!z;!z;"), -1);
      check.due("code(0, 0)", q.code(0, 0), 14);
      check.due("code(1, 0)", q.code(1, 0), 30);
      check.due("code(0, 1)", q.code(0, 1), -1);
    }
  }

  private static void noMutatorAndNoProgram() {
    check.about("load: otherwise -2 if the text is not a program");
    for (int m : NO_MUTATORS) {
      check.due("load(" + m + ") of no program", Check.load(new QuietSweep(0), m, "?"), -1);
    }
    check.due("load(0) of no program", Check.load(new QuietSweep(0), 0, "?"), -2);
    check.due("load(1) of no program", Check.load(new QuietSweep(0), 1, "?"), -2);
  }

  private static void refusedTextLeavesTheProgram() {
    check.about("load that is refused changes nothing but the text");
    for (String wrong : new String[] {"!x;!x;!x;!", "(a(b", ")", " ", "!x;!x;)"}) {
      QuietSweep q = Check.after(0, "x=3;!x;", "y=4;!y;", "011");
      String before = Check.state(q);
      check.due("load(0) of " + wrong, Check.load(q, 0, wrong), -2);
      check.due("load(1) of " + wrong, Check.load(q, 1, wrong), -2);
      check.due("state", Check.state(q), before);
      check.due("code(0, 2)", q.code(0, 2), -1);
      check.due("the old program goes on", Check.entries(q, "00"), 1);
      check.due("output(0, 0)", q.output(0, 0), 3);
    }
  }

  private static void rowOfNoStatements() {
    check.about("a program is a row of statements (perhaps none)");
    QuietSweep q = Check.after(0, "x=3;!x;", "", "0");
    check.due("load(0) of the empty text", q.load(0), 0);
    check.due("code(0, 0)", q.code(0, 0), -1);
    check.due("position(0)", q.position(0), 0);
    check.due("repeat(0, 5)", q.repeat(0, 5), 0);
    check.due("position(0)", q.position(0), 0);
    check.due("variable(0, 4)", q.variable(0, 4), 3);
  }

  private static void longestPrograms() {
    check.about("load: the longest texts and the most instructions");
    loads("!x;".repeat(20), 20);
    loads("a=*;".repeat(15), 15);
    loads("x=y+z;".repeat(10), 10);
    loads("(a)".repeat(20), 40);
    loads("(d" + "(c)".repeat(19) + ")", 40);
    loads("(a(b(c(d(a(b" + "!x;".repeat(14) + "))))))", 26);
    QuietSweep q = Check.loaded(0, "!x;".repeat(20), "");
    check.due("all of them are done", q.repeat(0, 60), 20);
    check.due("position(0)", q.position(0), 20);
    check.due("code(0, 19)", q.code(0, 19), 14);
  }

  private static void loads(String text, int due) {
    check.due("load(0) of " + text, Check.load(new QuietSweep(0), 0, text), due);
  }

  private static void withoutBlanks() {
    check.about("programs are written as text without blanks");
    for (String statement : STATEMENTS) {
      for (int k = 0; k <= statement.length(); k++) {
        loads(statement.substring(0, k) + " " + statement.substring(k), -2);
      }
    }
    loads(" ", -2);
    loads("!x; !x;", -2);
  }

  private static void variablesNextToTheOnesNamed() {
    check.about("R, S stand for one of a b c d, and I, J, K for one of x y z");
    for (char wrong : "`eABDXZRSIJw{0".toCharArray()) {
      for (String shape : "?=*; ?=-; ?=a; a=?.l; ?=a.r; ?.l=a; a.r=?; ?.l=-; ?.n=x; x=?.n; (?)".split(" ")) {
        loads(shape.replace('?', wrong), -2);
      }
      for (String shape : "?=0; ?=x; ?=x+y; x=?+y; x=y+?; ?=a.n; a.n=?; !?;".split(" ")) {
        loads(shape.replace('?', wrong), -2);
      }
    }
    loads("a=d;d=a;(a)(d)x=z;z=x;", 8);
  }

  private static void digitsNextToTheOnesNamed() {
    check.about("I=0; .. I=9;  a digit");
    loads("x=0;", 1);
    loads("x=9;", 1);
    for (String wrong : new String[] {"x=/;", "x=:;", "x=00;", "x=10;", "x=-1;", "x=+1;", "x=;", "a=0;", "x=1+y;", "!1;"}) {
      loads(wrong, -2);
    }
  }

  private static void statementsThatAreCutShort() {
    check.about("a statement that is cut short is none");
    for (String statement : STATEMENTS) {
      loads(statement, statement.startsWith("(b") ? 3 : statement.startsWith("(") ? 2 : 1);
      for (int k = 1; k < statement.length(); k++) {
        loads(statement.substring(0, k), -2);
        loads("!x;" + statement.substring(0, k), -2);
        loads(statement.substring(k), -2);
      }
      loads(statement + ";", -2);
    }
  }

  private static void fullTextsThatAreCutShort() {
    check.about("a full text whose last statement is cut short is no program");
    for (String statement : STATEMENTS) {
      for (int k = 1; k < statement.length(); k++) {
        String cut = statement.substring(0, k);
        loads(rowOf(60 - k) + cut, -2);
        QuietSweep q = new QuietSweep(0);
        // The end that was cut off stands there from a text before, which is no more.
        Check.load(q, 0, rowOf(60 - statement.length()) + statement);
        check.due("load(0) behind a full text", Check.load(q, 0, rowOf(60 - statement.length()) + cut), -2);
      }
    }
  }

  /** Statements of a length that is 6 or more. */
  private static String rowOf(int length) {
    int fours = length % 3;
    return "x=1;".repeat(fours) + "!x;".repeat((length - 4 * fours) / 3);
  }

  private static void loopsAtMostSixDeep() {
    check.about("loops are at most 6 deep");
    for (int deep = 1; deep <= 20; deep++) {
      loads("(a".repeat(deep) + ")".repeat(deep), deep <= 6 ? 2 * deep : -2);
    }
    loads("(a(b(c(d(a(b!x;!y;))))))", 14);
    loads("(a(b(c(d(a(b!x;(c)))))))", -2);
    loads("(a(b(c(d(a(b)(b)(b))))))", 16);
    loads("(a(b(c(d(a(b)))))(b(c(d(a(b))))))", 22);
    loads("(a(b(c(d(a(b)))))(b(c(d(a(b(c)))))))", -2);
  }

  private static void loopInNoOtherIsOneDeep() {
    check.about("one that stands in no other is 1 deep");
    loads("(a)(a)(a)(a)(a)(a)(a)", 14);
    loads("(a(b(c(d(a(b))))))(a(b(c(d(a(b))))))", 24);
    loads("(a(b(c(d(a(b))))))(a(b(c(d(a(b(c)))))))", -2);
    QuietSweep q = new QuietSweep(0);
    check.due("load(0) of loops without an end", Check.load(q, 0, "(a(b(c(d(a(b"), -2);
    check.due("load(0) of six deep behind that", Check.load(q, 0, "(a(b(c(d(a(b))))))"), 12);
  }

  private static void loopsWithoutStatements() {
    check.about("(R and a row of statements and ), a row of none too");
    loads("(a)", 2);
    loads("(d)", 2);
    loads("()", -2);
    loads("(a;)", -2);
    loads("(a,b)", -2);
    loads("(x)", -2);
  }

  private static void loopsWithoutEndOrBeginning() {
    check.about("a loop has a beginning and an end");
    for (String wrong : new String[] {"(", ")", "(a", "(a(b)", "(a))", ")(a)", "(a)(", "!x;)", "(a!x;", ")(", "(a)b)"}) {
      loads(wrong, -2);
    }
  }

  private static void codeOfNoInstruction() {
    check.about("code: NONE if there is no such instruction");
    QuietSweep q = Check.loaded(0, "!x;!y;", "");
    check.due("code(0, 0)", q.code(0, 0), 14);
    check.due("code(0, 1)", q.code(0, 1), 30);
    for (int k : new int[] {-1, 2, 3, 20, 40, 59, 60, 61, Integer.MAX_VALUE, Integer.MIN_VALUE}) {
      check.due("code(0, " + k + ")", q.code(0, k), -1);
    }
    check.due("code(1, 0) without instructions", q.code(1, 0), -1);
    check.due("load(0) of a shorter program", Check.load(q, 0, "!z;"), 1);
    check.due("code(0, 1) of the old one", q.code(0, 1), -1);
  }

  private static void codeOfNoMutator() {
    check.about("code: NONE if there is no such mutator");
    QuietSweep q = Check.loaded(0, "!x;!y;", "!x;!y;");
    for (int m : NO_MUTATORS) {
      check.due("code(" + m + ", 0)", q.code(m, 0), -1);
      check.due("code(" + m + ", -1)", q.code(m, -1), -1);
    }
  }

  private static void codeOfTheFarthestLoop() {
    check.about("code: t the instruction of its BACK, of its TEST");
    QuietSweep q = Check.loaded(0, "(d" + "(c)".repeat(19) + ")", "(a)".repeat(20));
    check.due("code(0, 0)", q.code(0, 0), 15 + 16 * 3 + 256 * 39);
    check.due("code(0, 39)", q.code(0, 39), 15 + 16 * 3 + 64);
    check.due("code(1, 38)", q.code(1, 38), 15 + 256 * 39);
    check.due("code(1, 39)", q.code(1, 39), 15 + 64 + 256 * 38);
    check.due("code(1, 40)", q.code(1, 40), -1);
  }

  private static void codeOfWhatIsNotNamed() {
    check.about("code: what is not named is 0");
    QuietSweep q = Check.loaded(0, "d=*;d=-;d.l=-;d.r=-;z=9;!z;d=d;z=z;(d)", "");
    int[] due = {48, 49, 55, 56, 42 + 2304, 46, 2 + 48 + 192, 11 + 32 + 128, 63 + 2304, 63 + 64 + 2048};
    for (int k = 0; k < due.length; k++) {
      check.due("code(0, " + k + ")", q.code(0, k), due[k]);
    }
  }
}
