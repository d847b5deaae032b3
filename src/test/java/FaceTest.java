import java.lang.reflect.Field;
import java.lang.reflect.Member;
import java.lang.reflect.Method;
import java.lang.reflect.Modifier;
import java.util.Arrays;
import java.util.TreeSet;

/** The public face of the document: its constants, constructor and methods, and nothing else. */
public final class FaceTest {
  private static final String[] METHODS = {"boolean boxAt[int, int]", "boolean live[int, int]", "boolean reachable[int, int]",
      "boolean setCell[int, int, int]", "boolean solved[]", "boolean undo[]", "int getCell[int, int]", "int move[int]",
      "int moveCount[]", "int push[int, int, int]", "int pushCount[]", "int pusher[]", "int solutionLength[]",
      "int solutionPush[int]", "int solve[]", "int start[]"};
  private static final String[] CONSTANTS = {"UP=0", "RIGHT=1", "DOWN=2", "LEFT=3", "CH_FLOOR=32", "CH_BOX=36", "CH_WALL=35",
      "CH_BOX_ON_GOAL=42", "CH_PUSHER_ON_GOAL=43", "CH_GOAL=46", "CH_PUSHER=64", "OK=0", "WALKED=1", "PUSHED=2",
      "ERR_NOT_STARTED=-1", "ERR_ARG=-2", "ERR_BLOCKED=-3", "ERR_NO_BOX=-4", "ERR_UNREACHABLE=-5", "ERR_TOO_BIG=-6",
      "ERR_NONE=-7", "ERR_PUSHER=-8", "ERR_BOXES=-9", "ERR_GOALS=-10"};

  public static void main(String[] args) throws ReflectiveOperationException {
    Class<?> face = BoxPushSolver.class;
    Check.due("modifiers", face.getModifiers(), Modifier.PUBLIC | Modifier.FINAL);
    Check.due("constructors", face.getDeclaredConstructors().length, 1);
    Check.due("constructor is public", Modifier.isPublic(face.getConstructor(int.class, int.class).getModifiers()), true);
    methods(face);
    constants(face);
    Check.end();
  }

  private static void methods(Class<?> face) {
    TreeSet<String> found = new TreeSet<>();
    for (Method method : face.getDeclaredMethods()) {
      if (isVisible(method)) {
        Check.due(method.getName() + " is public and not static", method.getModifiers(), Modifier.PUBLIC);
        String parameters = Arrays.toString(method.getParameterTypes());
        found.add(method.getReturnType() + " " + method.getName() + parameters);
      }
    }
    Check.same("methods", found.toString(), new TreeSet<>(Arrays.asList(METHODS)).toString());
  }

  private static void constants(Class<?> face) throws ReflectiveOperationException {
    TreeSet<String> found = new TreeSet<>();
    for (Field field : face.getDeclaredFields()) {
      if (isVisible(field)) {
        Check.due(field.getName(), field.getModifiers(), Modifier.PUBLIC | Modifier.STATIC | Modifier.FINAL);
        Check.same(field.getName() + "'s type", field.getType().toString(), "int");
        found.add(field.getName() + "=" + field.getInt(null));
      }
    }
    Check.same("constants", found.toString(), new TreeSet<>(Arrays.asList(CONSTANTS)).toString());
  }

  private static boolean isVisible(Member member) {
    return !Modifier.isPrivate(member.getModifiers());
  }
}
