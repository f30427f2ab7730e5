/** Promise 1, and what every reading call answers on a new object. */
public final class NewObjectTest {
  private static final Check check = new Check();

  public static void main(String[] args) {
    countsCells();
    startsEmpty();
    keepsObjectsApart();
    check.due("NONE", QuietSweep.NONE, -1);
    check.end();
  }

  private static void countsCells() {
    int[] given = {0, 1, 2, 3, 4, 5, 6, 7, 8, 15, 16, -1, -8, -7, 1000, Integer.MAX_VALUE, Integer.MIN_VALUE};
    int[] due = {4, 5, 6, 7, 8, 9, 10, 11, 4, 11, 4, 11, 4, 5, 4, 11, 4};
    for (int k = 0; k < given.length; k++) {
      check.about("promise 1, cells " + given[k]);
      QuietSweep q = new QuietSweep(given[k]);
      check.due("free()", q.free(), due[k]);
      check.due("colour(last)", q.colour(due[k] - 1), 0);
      check.due("colour(behind)", q.colour(due[k]), -1);
    }
  }

  private static void startsEmpty() {
    check.about("promise 1, at first");
    QuietSweep q = new QuietSweep(3);
    for (int cell = 0; cell < 7; cell++) {
      check.due("colour", q.colour(cell), 0);
      check.due("field l", q.field(cell, 0), -1);
      check.due("field r", q.field(cell, 1), -1);
      check.due("field n", q.field(cell, 2), 0);
      check.due("reaches", q.reaches(cell), false);
    }
    for (int m = 0; m < 2; m++) {
      for (int k = 0; k < 7; k++) {
        check.due("variable", q.variable(m, k), k < 4 ? -1 : 0);
      }
      check.due("code", q.code(m, 0), -1);
      check.due("position", q.position(m), 0);
      check.due("status", q.status(m), 0);
      check.due("buffered", q.buffered(m), 0);
      check.due("stalls", q.stalls(m), 0);
      check.due("outputs", q.outputs(m), 0);
      check.due("output", q.output(m, 0), 0);
      check.due("an entry of a mutator without instructions", q.go(m, 1), 0);
    }
    check.due("phase", q.phase(), 0);
    check.due("cycles", q.cycles(), 0);
    check.due("reached", q.reached(), 0);
    check.due("load of the empty text", q.load(0), 0);
  }

  private static void keepsObjectsApart() {
    check.about("promise 1, two objects");
    QuietSweep used = Check.loaded(0, "a=*;x=3;!x;", "b=*;");
    used.repeat(0, 3);
    used.repeat(1, 1);
    used.repeat(6, 1);
    QuietSweep other = new QuietSweep(0);
    check.due("free()", other.free(), 4);
    check.due("phase()", other.phase(), 0);
    check.due("code(0, 0)", other.code(0, 0), -1);
    check.due("outputs(0)", other.outputs(0), 0);
    check.due("free() of the used one", used.free(), 2);
  }
}
