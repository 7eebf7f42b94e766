import java.lang.reflect.Constructor;
import java.lang.reflect.Field;
import java.lang.reflect.Method;
import java.lang.reflect.Modifier;
import java.util.HashSet;
import java.util.Map;
import java.util.Set;

// The public face of the document, and those rules of LANGUAGE.md that the class file shows.
public final class FaceTest extends Checks {
  // Each method of the face with how many ints it takes.
  private static final Map<String, Integer> FACE = Map.ofEntries(
      Map.entry("gate", 3), Map.entry("feed", 2), Map.entry("output", 2), Map.entry("lines", 0),
      Map.entry("inject", 1), Map.entry("observe", 2), Map.entry("forget", 0),
      Map.entry("observations", 0), Map.entry("response", 2), Map.entry("responseWith", 3),
      Map.entry("candidates", 0), Map.entry("candidate", 1), Map.entry("healthy", 0),
      Map.entry("nextPattern", 0), Map.entry("detected", 2), Map.entry("hidden", 0),
      Map.entry("leader", 1), Map.entry("groups", 0), Map.entry("candidateGroups", 0));

  private static boolean isNumber(Class<?> type) {
    return type.isPrimitive() && type != float.class && type != double.class;
  }

  private static boolean isAllowed(Class<?> type) {
    return isNumber(type) || (type.isArray() && isNumber(type.getComponentType()));
  }

  private static void checkMethods(Class<?> program) {
    Set<String> found = new HashSet<>();
    for (Method method : program.getDeclaredMethods()) {
      String name = method.getName();
      for (Class<?> type : method.getParameterTypes()) must(isAllowed(type), name + " takes numbers");
      must(isNumber(method.getReturnType()), name + " answers a number");
      if (!FACE.containsKey(name)) {
        must(Modifier.isPrivate(method.getModifiers()), name + " is private");
        continue;
      }
      must(found.add(name), name + " is there once");
      must(method.getModifiers() == Modifier.PUBLIC, name + " is public alone");
      must(method.getReturnType() == int.class, name + " answers an int");
      must(method.getParameterCount() == FACE.get(name), name + " has its parameters");
      for (Class<?> type : method.getParameterTypes()) must(type == int.class, name + " takes ints");
    }
    must(found.size() == FACE.size(), "every method of the face is there");
  }

  private static void checkFields(Class<?> program) {
    for (Field field : program.getDeclaredFields()) {
      String name = field.getName();
      int modifiers = field.getModifiers();
      must(Modifier.isPrivate(modifiers), name + " is private");
      must(isAllowed(field.getType()), name + " is a number or an array of numbers");
      if (Modifier.isStatic(modifiers)) {
        must(Modifier.isFinal(modifiers), name + " is a constant");
        must(field.getType() == int.class || field.getType() == long.class, name + " is int or long");
      }
    }
  }

  public static void main(String[] args) {
    says("the public face");
    Class<?> program = ScanDiagnose.class;
    must(program.getModifiers() == (Modifier.PUBLIC | Modifier.FINAL), "the class is public and final");
    must(program.getSuperclass() == Object.class, "the class extends nothing");
    must(program.getInterfaces().length == 0, "the class implements nothing");
    must(program.getDeclaredClasses().length == 0, "the class has no nested class");
    Constructor<?>[] constructors = program.getDeclaredConstructors();
    must(constructors.length == 1, "there is one constructor");
    must(constructors[0].getParameterCount() == 0, "the constructor takes nothing");
    must(Modifier.isPublic(constructors[0].getModifiers()), "the constructor is public");
    checkMethods(program);
    checkFields(program);
    end();
  }
}
