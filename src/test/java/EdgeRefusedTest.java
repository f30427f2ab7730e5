import java.util.LinkedHashMap;
import java.util.Map;
import java.util.function.Consumer;

/**
 * "A call that is refused changes nothing, unless something else is said", nor does a call that only reads: an object
 * that gets such a call goes on as a twin that does not get it, in what no call reads (the text, the cell that is half
 * scanned, the place of the sweep) too.
 */
public final class EdgeRefusedTest {
  private static final Check check = new Check();
  private static final int[] WRONG = {-1, 11, 61, 1000, Integer.MAX_VALUE, Integer.MIN_VALUE};
  /** Each is a situation: the programs, the schedule, and the text that is there behind it. */
  private static final String[][] SITUATIONS = {
    {"", "", "", ""},
    {"", "", "", "a=*;x=7"},
    {"a=*;b=*;a.l=b;", "c=*;x=4;!x;", "000111", "!x;"},
    {"a=*;b=*;a.n=x;a.n=x;a.n=x;a.l=b;", "b=*;b=*;b=*;", "00000111", ""},
    {"a=*;b=*;a.r=b;b=-;", "c=*;", "00001645645", "(a"},
    {"a=*;b=*;a.r=b;b=-;", "c=*;", "000016456456456", ")"},
    {"a=*;b=*;a.r=b;b=-;", "c=*;", "0000164564564566", "!x;!y;"},
    {"a=*;b=*;a=-;a.r=b;", "c=*;", "0001645645645666666", "!x;"},
    {"a=*;b=*;a=-;a.r=b;", "c=*;", "000164564564566666666", "b=*;"},
    {"a=*;b=*;a=-;a.r=b;", "c=*;", "000164564564566666666666", ""},
  };
  private static final String FOLLOWING = "2301670145670123456745670123456701676767";

  public static void main(String[] args) {
    sixtyCharacters();
    Map<String, Consumer<QuietSweep>> calls = new LinkedHashMap<>();
    addRefused(calls);
    addReading(calls);
    for (int situation = 0; situation < SITUATIONS.length; situation++) {
      for (Map.Entry<String, Consumer<QuietSweep>> call : calls.entrySet()) {
        check.about(call.getKey() + " in situation " + situation);
        compare(SITUATIONS[situation], call.getValue());
      }
      check.about("load that is refused in situation " + situation);
      comparePrograms(SITUATIONS[situation]);
    }
    check.end();
  }

  private static void addRefused(Map<String, Consumer<QuietSweep>> calls) {
    calls.put("write of no character", q -> {
      for (int c : new int[] {0, 10, 31, 127, 128, 256 + '!', 65535}) {
        check.due("write " + c, q.write((char) c), false);
      }
    });
    calls.put("go with a wrong n", q -> {
      for (int n : WRONG) {
        check.due("go(0, " + n + ")", q.go(0, n), -1);
        check.due("go(-1, " + n + ")", q.go(-1, n), -1);
      }
    });
    calls.put("repeat with a wrong entry or n", q -> {
      for (int wrong : WRONG) {
        check.due("repeat(" + wrong + ", 1)", q.repeat(wrong, 1), -1);
        check.due("repeat(0, " + wrong + ")", q.repeat(0, wrong == 11 ? 61 : wrong), -1);
        check.due("repeat(6, " + wrong + ")", q.repeat(6, wrong == 11 ? -2 : wrong), -1);
      }
    });
    calls.put("go and repeat of no entry", q -> {
      check.due("go(-1, 0)", q.go(-1, 0), 0);
      for (int entry = 0; entry < 8; entry++) {
        check.due("repeat(" + entry + ", 0)", q.repeat(entry, 0), 0);
      }
    });
  }

  private static void addReading(Map<String, Consumer<QuietSweep>> calls) {
    calls.put("reading of what is there", Check::state);
    calls.put("reading of no mutator", q -> {
      for (int m : WRONG) {
        int none = q.code(m, 0) & q.position(m) & q.variable(m, 0) & q.status(m) & q.buffered(m) & q.stalls(m);
        check.due("reading of mutator " + m, none & q.outputs(m) & q.seen(m, 0, 0), -1);
        check.due("output(" + m + ", 0)", q.output(m, 0), 0);
      }
    });
    calls.put("reading of no variable, instruction, output, cell or field", q -> {
      for (int k : WRONG) {
        int none = q.code(0, k) & q.variable(1, k) & q.colour(k) & q.field(k, 0) & q.field(0, k);
        check.due("reading of " + k, none & q.seen(0, k, 0) & q.seen(1, 0, k), -1);
        check.due("output(0, " + k + ")", q.output(0, k == 11 ? 16 : k), 0);
        check.due("reaches(" + k + ")", q.reaches(k), false);
      }
    });
  }

  private static QuietSweep in(String[] situation) {
    QuietSweep q = Check.after(0, situation[0], situation[1], situation[2]);
    Check.type(q, situation[3]);
    return q;
  }

  private static void compare(String[] situation, Consumer<QuietSweep> call) {
    QuietSweep asked = in(situation);
    call.accept(asked);
    check.due("state", Check.state(asked), Check.state(in(situation)));

    // The twin is read only at the end, so that it would go another way if a call that reads changed something.
    QuietSweep twin = in(situation);
    QuietSweep q = in(situation);
    call.accept(q);
    for (int k = 0; k < FOLLOWING.length(); k++) {
      int entry = FOLLOWING.charAt(k) - '0';
      check.due("entry " + k + " behind it", q.go(entry, 1), twin.go(entry, 1));
    }
    check.due("load(1) of the text", q.load(1), twin.load(1));
    check.due("state behind it", Check.state(q), Check.state(twin));
  }

  /** A load that is refused takes the text away, so the twin has none. */
  private static void comparePrograms(String[] situation) {
    for (int mutator : new int[] {0, 1, 2, -1}) {
      QuietSweep twin = Check.after(0, situation[0], situation[1], situation[2]);
      QuietSweep q = in(situation);
      q.write('?');
      check.due("load(" + mutator + ")", q.load(mutator), mutator == 0 || mutator == 1 ? -2 : -1);
      check.due("state", Check.state(q), Check.state(twin));
      check.due("entries behind it", Check.entries(q, FOLLOWING), Check.entries(twin, FOLLOWING));
      check.due("state behind it", Check.state(q), Check.state(twin));
      check.due("load(0) of the text", q.load(0), 0);
    }
  }

  private static void sixtyCharacters() {
    check.about("a character behind the 60th");
    QuietSweep q = new QuietSweep(0);
    Check.type(q, "(b)".repeat(20));
    for (char c : "!;)(a \t".toCharArray()) {
      check.due("write " + c, q.write(c), false);
    }
    check.due("load(0)", q.load(0), 40);
    check.due("code(0, 39)", q.code(0, 39), 15 + 16 + 64 + 256 * 38);
  }
}
