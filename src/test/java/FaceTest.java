import java.lang.reflect.Constructor;
import java.lang.reflect.Field;
import java.lang.reflect.Method;
import java.lang.reflect.Modifier;
import java.util.Arrays;
import java.util.Set;
import java.util.TreeSet;

/** The class shows the document's face and nothing else. */
public final class FaceTest {
  private static final String[] METHODS = {
      "set(int,int)", "request(int,int,int,int,int)", "free(int,int,int)", "cancel(int)", "leave(int)", "ticks(int)",
      "at(int,int)", "owners(int,int)", "ofOwner(int,int)", "stretch(int,int,int)", "inRow(int)", "waitsFor(int)", "count(int)",
      "couldGive(int,int,int,int)", "inTheWay(int,int,int,int)", "ring(int,int,int,int)", "firstFor(int,int,int,int)",
      "longestFor(int,int,int)", "givenIf(int)", "greatestBar(int)",
      "put(long)", "wipe()", "fault()", "carryOut()", "undo()", "save(int)", "restore(int)"};
  private static final String[] CONSTANTS = {
      "NO_SUCH=-1", "BAD_VALUE=-2", "BAD_TEXT=-3", "TOO_MANY=-4", "NOT_POSSIBLE=-5", "NONE=-6",
      "FAIR=0", "BREAK=1", "PATIENCE=2", "FREE=0", "READ=1", "MEAN=2", "WRITE=3"};

  private static int wrong = 0;

  private static void same(String what, Object got, Object due) {
    if (got.equals(due)) return;
    wrong++;
    System.out.println(what + ": " + got + ", due is " + due);
  }

  private static String signature(Method m) {
    StringBuilder text = new StringBuilder(m.getName()).append('(');
    for (Class<?> type : m.getParameterTypes()) text.append(text.charAt(text.length() - 1) == '(' ? "" : ",").append(type);
    return text.append(')').toString();
  }

  public static void main(String[] args) throws Exception {
    Class<MeanLocks> face = MeanLocks.class;
    Set<String> names = new TreeSet<>();
    Set<String> methods = new TreeSet<>();
    for (Method m : face.getDeclaredMethods()) {
      if (Modifier.isPrivate(m.getModifiers())) continue;
      same("modifiers of " + m, m.getModifiers(), Modifier.PUBLIC);
      same("type of " + m, m.getReturnType(), int.class);
      methods.add(signature(m));
      names.add(m.getName());
    }
    same("methods", methods, new TreeSet<>(Arrays.asList(METHODS)));

    Set<String> constants = new TreeSet<>();
    for (Field f : face.getDeclaredFields()) {
      if (Modifier.isPrivate(f.getModifiers())) continue;
      same("modifiers of " + f, f.getModifiers(), Modifier.PUBLIC | Modifier.STATIC | Modifier.FINAL);
      constants.add(f.getName() + "=" + f.getInt(null));
    }
    same("constants", constants, new TreeSet<>(Arrays.asList(CONSTANTS)));

    Constructor<?>[] constructors = face.getDeclaredConstructors();
    same("constructors", constructors.length, 1);
    same("the constructor", constructors[0].toString(), "public MeanLocks()");
    same("modifiers of the class", face.getModifiers(), Modifier.PUBLIC | Modifier.FINAL);
    same("package", face.getPackageName(), "");

    for (Class<?> inside : face.getDeclaredClasses()) {
      int modifiers = inside.getModifiers();
      same(inside + " is static", Modifier.isStatic(modifiers), true);
      same(inside + " is public or protected", Modifier.isPublic(modifiers) || Modifier.isProtected(modifiers), false);
      for (Method m : inside.getDeclaredMethods()) same(m + " bears a public name", names.contains(m.getName()), false);
    }
    for (Method m : face.getDeclaredMethods()) {
      if (Modifier.isPrivate(m.getModifiers())) same(m + " bears a public name", names.contains(m.getName()), false);
    }
    System.out.println(wrong == 0 ? "the face is the document's" : "failed");
    if (wrong != 0) System.exit(1);
  }
}
