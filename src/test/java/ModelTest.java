import java.lang.reflect.InvocationTargetException;
import java.lang.reflect.Method;
import java.util.ArrayList;
import java.util.Arrays;
import java.util.Comparator;
import java.util.List;

/** Runs of 512 calls, the same ones every time, on the class and on the model: each answer is to be the same. */
public final class ModelTest {
  private static final int RUNS = 600;
  private static final int CALLS = 512;
  private static final int SHOWN = 20;

  private static long seed = 1;
  private static int wrong = 0;

  public static void main(String[] args) throws ReflectiveOperationException {
    List<Method> face = new ArrayList<>();
    for (Method method : Twostacks.class.getDeclaredMethods()) {
      if (java.lang.reflect.Modifier.isPublic(method.getModifiers())) {
        face.add(method);
      }
    }
    face.sort(Comparator.comparing(Method::getName));
    for (int run = 1; run <= RUNS; run++) {
      seed = run;
      run(run, face);
    }
    System.out.println("ModelTest: " + RUNS + " runs of " + CALLS + " calls, " + wrong + " wrong");
    if (wrong != 0 || face.size() != 44) {
      System.exit(1);
    }
  }

  /** A run likes some of the methods more, and has things of a small or of the whole range. */
  private static void run(int run, List<Method> face) throws ReflectiveOperationException {
    Twostacks x = new Twostacks();
    Model model = new Model();
    int things = new int[] {2, 3, 12, 100}[run % 4];
    int fills = run / 4 % 3;
    for (int call = 1; call <= CALLS; call++) {
      Method method = face.get(next(face.size()));
      if (fills > 0 && next(3) == 0) {
        method = named(face, new String[] {"put", "enter", "slide", "pour", "count", "braid"}[next(6)]);
      }
      if (fills == 0 && next(2) == 0) {
        method = named(face, next(2) == 0 ? "put" : "enter");
      }
      Object[] arguments = arguments(method, things);
      Object got = answer(x, method, arguments);
      Object want = answer(model, Model.class.getMethod(method.getName(), method.getParameterTypes()), arguments);
      due(run, call, method.getName() + Arrays.toString(arguments), got, want);
    }
  }

  private static Method named(List<Method> face, String name) {
    for (Method method : face) {
      if (method.getName().equals(name)) {
        return method;
      }
    }
    throw new IllegalStateException("no method " + name);
  }

  private static void due(int run, int call, String what, Object got, Object want) {
    if (!got.equals(want)) {
      wrong++;
      if (wrong <= SHOWN) {
        System.out.println("run " + run + ", call " + call + ": " + what + " answered " + got + ", due is " + want);
      }
    }
  }

  private static Object answer(Object on, Method method, Object[] arguments) throws ReflectiveOperationException {
    try {
      return method.invoke(on, arguments);
    } catch (InvocationTargetException e) {
      return "throws." + e.getCause().getClass().getSimpleName();
    }
  }

  private static Object[] arguments(Method method, int things) {
    Class<?>[] types = method.getParameterTypes();
    Object[] arguments = new Object[types.length];
    String kinds = kinds(method.getName());
    for (int i = 0; i < types.length; i++) {
      arguments[i] = types[i] == boolean.class ? (Object) (next(2) == 0) : (Object) number(kinds.charAt(i), things);
    }
    return arguments;
  }

  /** For each argument: d a deque, e an end, w a way, t a thing, n one of thin, p a place, b any number, and so on. */
  private static String kinds(String name) {
    switch (name) {
      case "put": return "dewt";
      case "take": case "look": return "dew";
      case "sift": return "dtt";
      case "thin": return "dnx";
      case "drop": case "has": case "often": case "place": return "dtx";
      case "copy": case "shift": case "pour": case "areSame": return "ddx";
      case "braid": case "unbraid": return "ddd";
      case "turn": return "db";
      case "at": return "dp";
      case "enter": case "slide": return "t";
      case "ofQueue": case "ofWindow": case "house": return "o";
      case "width": return "m";
      case "gather": return "g";
      case "count": return "k";
      case "wheel": return "b";
      case "order": case "survivor": return "gk";
      default: return "dx";
    }
  }

  private static int number(char kind, int things) {
    if (next(60) == 0) {
      return new int[] {-1, Integer.MIN_VALUE, Integer.MAX_VALUE, 100, 25}[next(5)];
    }
    switch (kind) {
      case 'd': return next(80) == 0 ? 4 : next(4);
      case 'e': return next(80) == 0 ? 2 : next(2);
      case 'w': return next(80) == 0 ? 4 : next(4);
      case 't': return next(80) == 0 ? 100 : next(things);
      case 'n': return next(12) == 0 ? next(27) - 1 : 1 + next(6);
      case 'p': return next(26) - 1;
      case 'b': return next(4) == 0 ? (int) (next(1 << 20) * 4099L) : next(61) - 30;
      case 'o': return next(8) - 1;
      case 'm': return next(15) - 1;
      case 'g': return next(27) - 1;
      case 'k': return next(3) == 0 ? next(102) - 1 : 1 + next(9);
      default: throw new IllegalStateException("no kind " + kind);
    }
  }

  private static int next(int below) {
    seed = seed * 6364136223846793005L + 1442695040888963407L;
    return (int) ((seed >>> 33) % below);
  }
}
