/** The calls that README.md shows, with the answers that it tells; whoever changes the one changes the other. */
public final class ReadmeTest {
  private static final Check check = new Check();

  public static void main(String[] args) {
    check.about("the example of README.md");
    QuietSweep q = new QuietSweep(0);
    for (char c : "a=*;x=7;a.n=x;y=a.n;!y;".toCharArray()) {
      check.due("write(" + c + ")", q.write(c), true);
    }
    check.due("load(0)", q.load(0), 5);
    check.due("repeat(0, 5)", q.repeat(0, 5), 5);
    check.due("output(0, 0)", q.output(0, 0), 7);
    check.due("field(0, 2)", q.field(0, 2), 0);
    check.due("repeat(2, 1)", q.repeat(2, 1), 1);
    check.due("field(0, 2)", q.field(0, 2), 7);
    check.due("go(6 | 4 << 3 | 5 << 6 | 6 << 9, 4)", q.go(6 | 4 << 3 | 5 << 6 | 6 << 9, 4), 4);
    check.due("phase()", q.phase(), 2);
    check.end();
  }
}
