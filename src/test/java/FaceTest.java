import java.lang.reflect.Constructor;
import java.lang.reflect.Field;
import java.lang.reflect.Method;
import java.lang.reflect.Modifier;
import java.util.Arrays;
import java.util.Set;
import java.util.TreeSet;

/** The class shows the document's face, and nothing else. */
public final class FaceTest {
  private static final String[] FACE = {
    "int addCable(int)", "int setWidth(int,int)", "int addMachine(boolean)",
    "int addPort(int,int,int,int)", "int addTunnel(int,int)", "int addRoute(int,int,int,int)",
    "int dropRoute(int)", "boolean setForwarding(int,boolean)",
    "int send(int,int,boolean,int,int,boolean)", "int step(int)", "int forget(int)",
    "int giveUp(int)", "int machines()", "int packets()", "int steps()", "int gone()",
    "int frames()", "int frame(int,int)", "int knows(int,int)", "int waiting(int)",
    "int heaps(int)", "int noted(int)", "int note(int,int,int)", "int way(int,int,int)",
    "int carried(int)", "double use()", "int whoTells(int,int,int)", "int hops(int,int)",
    "int widest(int,int)", "long digest()"
  };

  public static void main(String[] args) {
    Check check = new Check("FaceTest");
    int modifiers = SeamarkNet.class.getModifiers();
    check.same("public", Modifier.isPublic(modifiers), true);
    check.same("final", Modifier.isFinal(modifiers), true);
    check.same("no package", SeamarkNet.class.getPackageName(), "");
    checkMethods(check);
    checkFields(check);
    Constructor<?>[] constructors = SeamarkNet.class.getDeclaredConstructors();
    check.same("one constructor", constructors.length, 1);
    check.same("without arguments", constructors[0].getParameterCount(), 0);
    check.same("public constructor", Modifier.isPublic(constructors[0].getModifiers()), true);
    for (Class<?> inside : SeamarkNet.class.getDeclaredClasses()) {
      check.same(inside + " is static", Modifier.isStatic(inside.getModifiers()), true);
      check.same(inside + " is not public", Modifier.isPublic(inside.getModifiers()), false);
    }
    check.end();
  }

  private static void checkMethods(Check check) {
    Set<String> shown = new TreeSet<>();
    Set<String> publicNames = new TreeSet<>();
    Set<String> privateNames = new TreeSet<>();
    for (Method method : SeamarkNet.class.getDeclaredMethods()) {
      if (Modifier.isPrivate(method.getModifiers())) {
        privateNames.add(method.getName());
        continue;
      }
      check.same(method + " is public", Modifier.isPublic(method.getModifiers()), true);
      shown.add(signature(method));
      publicNames.add(method.getName());
    }
    check.same("the methods", shown, new TreeSet<>(Arrays.asList(FACE)));
    privateNames.retainAll(publicNames);
    check.same("private methods with a public one's name", privateNames, new TreeSet<String>());
  }

  private static void checkFields(Check check) {
    for (Field field : SeamarkNet.class.getDeclaredFields()) {
      int modifiers = field.getModifiers();
      check.same(field + " is private", Modifier.isPrivate(modifiers), true);
      boolean mayChange = Modifier.isStatic(modifiers) && !Modifier.isFinal(modifiers);
      check.same(field + " is static, but not final", mayChange, false);
    }
  }

  private static String signature(Method method) {
    StringBuilder text = new StringBuilder();
    text.append(method.getReturnType()).append(' ').append(method.getName()).append('(');
    for (Class<?> type : method.getParameterTypes()) {
      if (text.charAt(text.length() - 1) != '(') {
        text.append(',');
      }
      text.append(type);
    }
    return text.append(')').toString();
  }
}
