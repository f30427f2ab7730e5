import java.lang.reflect.Constructor;
import java.lang.reflect.Field;
import java.lang.reflect.Member;
import java.lang.reflect.Method;
import java.lang.reflect.Modifier;
import java.util.Arrays;
import java.util.HashSet;
import java.util.Set;
import java.util.TreeSet;

/** The public face of the document, and the rules of LANGUAGE.md that a class file shows. */
public final class FaceTest {
  private static final Check check = new Check();
  private static final String[] FACE = {
    "boolean write(char)", "int load(int)", "int go(int,int)", "int repeat(int,int)", "int code(int,int)",
    "int position(int)", "int variable(int,int)", "int status(int)", "int buffered(int)", "int stalls(int)",
    "int outputs(int)", "int output(int,int)", "int colour(int)", "int field(int,int)", "int seen(int,int,int)",
    "int phase()", "int cycles()", "int free()", "int reached()", "boolean reaches(int)",
  };

  public static void main(String[] args) {
    theClass();
    theMethods();
    theFields();
    theClassesInside();
    check.end();
  }

  private static void theClass() {
    check.about("the face, the class");
    int modifiers = QuietSweep.class.getModifiers();
    check.due("public", Modifier.isPublic(modifiers), true);
    check.due("final", Modifier.isFinal(modifiers), true);
    check.due("without a package", QuietSweep.class.getPackageName().isEmpty(), true);
    Constructor<?>[] constructors = QuietSweep.class.getDeclaredConstructors();
    check.due("constructors", constructors.length, 1);
    check.due("public", Modifier.isPublic(constructors[0].getModifiers()), true);
    check.due("takes an int", Arrays.equals(constructors[0].getParameterTypes(), new Class<?>[] {int.class}), true);
  }

  private static String told(Method method) {
    StringBuilder text = new StringBuilder(method.getReturnType().getName());
    text.append(' ').append(method.getName()).append('(');
    String comma = "";
    for (Class<?> type : method.getParameterTypes()) {
      text.append(comma).append(type.getName());
      comma = ",";
    }
    return text.append(')').toString();
  }

  private static boolean isOpen(Member member) {
    return !Modifier.isPrivate(member.getModifiers()) && !member.isSynthetic();
  }

  private static void theMethods() {
    Set<String> open = new TreeSet<>();
    Set<String> openNames = new HashSet<>();
    for (Method method : QuietSweep.class.getDeclaredMethods()) {
      if (isOpen(method)) {
        open.add(told(method));
        openNames.add(method.getName());
        check.about("the face, " + told(method));
        check.due("public", Modifier.isPublic(method.getModifiers()), true);
        check.due("of an object", Modifier.isStatic(method.getModifiers()), false);
      }
    }
    check.about("the face, methods that are open: " + open);
    check.due("as the document says", open.equals(new TreeSet<>(Arrays.asList(FACE))), true);
    for (Method method : QuietSweep.class.getDeclaredMethods()) {
      check.about("rule 1, the private method " + told(method));
      check.due("has a name of its own", isOpen(method) || !openNames.contains(method.getName()), true);
    }
  }

  private static void theFields() {
    for (Field field : QuietSweep.class.getDeclaredFields()) {
      check.about("rules 1 and 5, the field " + field.getName());
      check.due("open", isOpen(field), field.getName().equals("NONE"));
      check.due("final", Modifier.isFinal(field.getModifiers()), true);
    }
  }

  private static void theClassesInside() {
    Class<?>[] inside = QuietSweep.class.getDeclaredClasses();
    check.about("rule 11, classes");
    check.due("at most twelve", inside.length < 12, true);
    for (Class<?> one : inside) {
      check.about("rules 1 and 2, the class " + one.getName());
      check.due("static", Modifier.isStatic(one.getModifiers()), true);
      check.due("open", Modifier.isPublic(one.getModifiers()) || Modifier.isProtected(one.getModifiers()), false);
      for (Field field : one.getDeclaredFields()) {
        check.due(field.getName(), !Modifier.isStatic(field.getModifiers()) || Modifier.isFinal(field.getModifiers()), true);
      }
    }
  }
}
