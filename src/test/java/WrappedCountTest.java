import java.lang.reflect.Array;
import java.lang.reflect.Field;

/**
 * LANGUAGE.md, rule 7: no call may ever throw, in any state. The count of outputs can wrap only after some forty million
 * calls; what they answer is free then, but they still have to answer. So the count is set by hand, just before it wraps.
 */
public final class WrappedCountTest {
  private static final Check check = new Check();
  private static final int[] EDGES = {0, 1, 15, 16, 17, -1, Integer.MAX_VALUE, Integer.MIN_VALUE};

  public static void main(String[] args) throws ReflectiveOperationException {
    latestBeforeTheWrap();
    noCallThrowsBehindTheWrap();
    check.end();
  }

  private static Object valueOf(Object owner, String name) throws ReflectiveOperationException {
    return field(owner, name).get(owner);
  }

  private static Field field(Object owner, String name) throws ReflectiveOperationException {
    Field field = owner.getClass().getDeclaredField(name);
    field.setAccessible(true);
    return field;
  }

  private static void setOutputs(QuietSweep q, int mutator, int count) throws ReflectiveOperationException {
    Object outs = valueOf(Array.get(valueOf(q, "mutators"), mutator), "outs");
    field(outs, "count").setInt(outs, count);
  }

  private static void latestBeforeTheWrap() throws ReflectiveOperationException {
    check.about("the latest outputs are told as long as their count has not wrapped");
    QuietSweep q = Check.loaded(0, "x=7;!x;x=8;!x;", "");
    setOutputs(q, 0, Integer.MAX_VALUE - 2);
    check.due("repeat(0, 4)", q.repeat(0, 4), 4);
    check.due("outputs(0)", q.outputs(0), Integer.MAX_VALUE);
    check.due("output(0, 0)", q.output(0, 0), 8);
    check.due("output(0, 1)", q.output(0, 1), 7);
  }

  private static void noCallThrowsBehindTheWrap() throws ReflectiveOperationException {
    for (int mutator = 0; mutator < 2; mutator++) {
      check.about("rule 7, the count of outputs of mutator " + mutator + " wraps");
      QuietSweep q = new QuietSweep(0);
      Check.load(q, mutator, "a=*;(a!x;!x;!x;!x;!x;)");
      setOutputs(q, mutator, Integer.MAX_VALUE - 2);
      check.due("moved", movedOrThrown(q, mutator), 60);
      check.due("outputs that can be asked for", asksEveryOutput(q, mutator), true);
    }
  }

  private static int movedOrThrown(QuietSweep q, int mutator) {
    try {
      return q.repeat(mutator, 60);
    } catch (RuntimeException thrown) {
      return -1;
    }
  }

  private static boolean asksEveryOutput(QuietSweep q, int mutator) {
    try {
      for (int k : EDGES) {
        q.output(mutator, k);
      }
      return true;
    } catch (RuntimeException thrown) {
      return false;
    }
  }
}
