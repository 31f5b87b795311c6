import java.lang.reflect.Constructor;
import java.lang.reflect.Field;
import java.lang.reflect.Method;
import java.lang.reflect.Modifier;
import java.util.Arrays;
import java.util.Set;
import java.util.TreeSet;

/** The class shows the document's face, and nothing else. */
public final class FaceTest {
  private static final String BOUNDS = " IndexOutOfBoundsException";
  private static final String ARGUMENT = " IllegalArgumentException";
  private static final String STATE = " IllegalStateException";
  private static final String[] FACE = {
    "int addCable(int)" + ARGUMENT + STATE,
    "int setWidth(int,int)" + BOUNDS + ARGUMENT,
    "int addMachine(boolean)" + STATE,
    "int addPort(int,int,int,int)" + BOUNDS + ARGUMENT + STATE,
    "int addTunnel(int,int)" + BOUNDS + ARGUMENT + STATE,
    "int addRoute(int,int,int,int)" + BOUNDS + ARGUMENT + STATE,
    "int dropRoute(int)" + BOUNDS + STATE,
    "boolean setForwarding(int,boolean)" + BOUNDS,
    "int send(int,int,boolean,int,int,boolean)" + BOUNDS + ARGUMENT,
    "int step(int)" + ARGUMENT,
    "int forget(int)" + BOUNDS,
    "int giveUp(int)" + BOUNDS,
    "int machines()",
    "int packets()",
    "int steps()",
    "int gone()",
    "int frames()",
    "int frame(int,int)" + BOUNDS + ARGUMENT,
    "int knows(int,int)" + BOUNDS + ARGUMENT,
    "int waiting(int)" + BOUNDS,
    "int heaps(int)" + BOUNDS,
    "int noted(int)" + BOUNDS,
    "int note(int,int,int)" + BOUNDS + ARGUMENT,
    "int way(int,int,int)" + BOUNDS + ARGUMENT,
    "int carried(int)" + BOUNDS,
    "double use()",
    "int whoTells(int,int,int)" + BOUNDS + ARGUMENT,
    "int hops(int,int)" + BOUNDS + ARGUMENT,
    "int widest(int,int)" + BOUNDS + ARGUMENT,
    "long digest()"
  };

  public static void main(String[] args) {
    Check check = new Check("FaceTest");
    int modifiers = SeamarkNet.class.getModifiers();
    check.same("public", Modifier.isPublic(modifiers), true);
    check.same("final", Modifier.isFinal(modifiers), true);
    check.same("no package", SeamarkNet.class.getPackageName(), "");
    checkMethods(check);
    checkFields(check);
    Constructor<?>[] constructors = SeamarkNet.class.getDeclaredConstructors();
    check.same("one constructor", constructors.length, 1);
    check.same("without arguments", constructors[0].getParameterCount(), 0);
    check.same("public constructor", Modifier.isPublic(constructors[0].getModifiers()), true);
    for (Class<?> inside : SeamarkNet.class.getDeclaredClasses()) {
      check.same(inside + " is static", Modifier.isStatic(inside.getModifiers()), true);
      check.same(inside + " is not public", Modifier.isPublic(inside.getModifiers()), false);
    }
    check.end();
  }

  private static void checkMethods(Check check) {
    Set<String> shown = new TreeSet<>();
    Set<String> publicNames = new TreeSet<>();
    Set<String> privateNames = new TreeSet<>();
    for (Method method : SeamarkNet.class.getDeclaredMethods()) {
      if (Modifier.isPrivate(method.getModifiers())) {
        privateNames.add(method.getName());
        continue;
      }
      check.same(method + " is public", Modifier.isPublic(method.getModifiers()), true);
      shown.add(signature(method));
      publicNames.add(method.getName());
    }
    check.same("the methods", shown, new TreeSet<>(Arrays.asList(FACE)));
    privateNames.retainAll(publicNames);
    check.same("private methods with a public one's name", privateNames, new TreeSet<String>());
  }

  private static void checkFields(Check check) {
    for (Field field : SeamarkNet.class.getDeclaredFields()) {
      int modifiers = field.getModifiers();
      check.same(field + " is private", Modifier.isPrivate(modifiers), true);
      boolean mayChange = Modifier.isStatic(modifiers) && !Modifier.isFinal(modifiers);
      check.same(field + " is static, but not final", mayChange, false);
    }
  }

  private static String signature(Method method) {
    StringBuilder text = new StringBuilder();
    text.append(method.getReturnType()).append(' ').append(method.getName()).append('(');
    for (Class<?> type : method.getParameterTypes()) {
      if (text.charAt(text.length() - 1) != '(') {
        text.append(',');
      }
      text.append(type);
    }
    text.append(')');
    for (Class<?> thrown : method.getExceptionTypes()) {
      text.append(' ').append(thrown.getSimpleName());
    }
    return text.toString();
  }
}
