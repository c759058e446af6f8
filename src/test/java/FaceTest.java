import java.io.IOException;
import java.lang.reflect.Constructor;
import java.lang.reflect.Field;
import java.lang.reflect.Method;
import java.lang.reflect.Modifier;
import java.nio.file.Files;
import java.nio.file.Path;
import java.util.ArrayList;
import java.util.Arrays;
import java.util.List;
import java.util.Set;
import java.util.TreeSet;
import java.util.regex.Matcher;
import java.util.regex.Pattern;

/** The public face, and the rules of LANGUAGE.md that can be looked up in the class or its source. */
public final class FaceTest {
  private static final String SOURCE = "src/main/java/NumberModels.java";

  private static final String[] FACE = {
    "int whole(long) IllegalStateException",
    "int fraction(long, long) ArithmeticException, IllegalStateException",
    "int real(long) ArithmeticException, IllegalStateException",
    "int act(int, int, int) IndexOutOfBoundsException, IllegalArgumentException, ArithmeticException, IllegalStateException",
    "int clear() ",
    "int count() ",
    "long word(int, int) IndexOutOfBoundsException",
    "int sign(int) IndexOutOfBoundsException",
    "int bits(int, boolean) IndexOutOfBoundsException",
    "long wrap(int, int, boolean) IndexOutOfBoundsException, IllegalArgumentException",
    "int order(int, int) IndexOutOfBoundsException",
    "int meets(int, long) IndexOutOfBoundsException",
    "long nearest(int, int) IndexOutOfBoundsException, IllegalArgumentException",
    "int single(int, int) IndexOutOfBoundsException, IllegalArgumentException",
    "long machine(int, long, long) IllegalArgumentException",
    "long cast(int, long) IllegalArgumentException",
  };

  private static final Set<String> LIBRARY = Set.of("Math.max", "Math.min", "Math.abs", "System.arraycopy");

  private static final Set<String> EXCEPTIONS = Set.of(
      "IllegalStateException", "IllegalArgumentException", "IndexOutOfBoundsException", "ArithmeticException");

  private final Due due = new Due();

  public static void main(String[] args) throws IOException {
    FaceTest test = new FaceTest();
    test.face();
    test.inside();
    test.source(Files.readString(Path.of(SOURCE)));
    test.due.end();
  }

  private void face() {
    Class<?> face = NumberModels.class;
    due.same("modifiers", Modifier.toString(face.getModifiers()), "public final");
    due.same("constructors", Arrays.toString(face.getDeclaredConstructors()), "[public NumberModels()]");
    Set<String> open = new TreeSet<>();
    Set<String> names = new TreeSet<>();
    for (Method method : face.getDeclaredMethods()) {
      if (!Modifier.isPrivate(method.getModifiers())) {
        open.add(told(method));
        names.add(method.getName());
      }
    }
    due.same("methods", open.toString(), new TreeSet<>(Arrays.asList(FACE)).toString());
    for (Field field : face.getDeclaredFields()) {
      due.holds(field + " is private", Modifier.isPrivate(field.getModifiers()));
    }
    for (Class<?> inside : withClassesInside()) {
      for (Method method : inside.getDeclaredMethods()) {
        boolean hidden = Modifier.isPrivate(method.getModifiers()) || inside != face;
        due.holds(method + " has a name of its own", !hidden || !names.contains(method.getName()));
      }
    }
  }

  private static String told(Method method) {
    List<String> takes = new ArrayList<>();
    for (Class<?> type : method.getParameterTypes()) {
      takes.add(type.getSimpleName());
    }
    List<String> fails = new ArrayList<>();
    for (Class<?> type : method.getExceptionTypes()) {
      fails.add(type.getSimpleName());
    }
    return method.getReturnType().getSimpleName() + " " + method.getName()
        + "(" + String.join(", ", takes) + ") " + String.join(", ", fails);
  }

  private static List<Class<?>> withClassesInside() {
    List<Class<?>> all = new ArrayList<>();
    all.add(NumberModels.class);
    all.addAll(Arrays.asList(NumberModels.class.getDeclaredClasses()));
    return all;
  }

  private void inside() {
    due.holds("some twelve classes at most", withClassesInside().size() <= 12);
    for (Class<?> inside : withClassesInside()) {
      due.holds(inside + " is static", inside == NumberModels.class || Modifier.isStatic(inside.getModifiers()));
      int fields = 0;
      for (Field field : inside.getDeclaredFields()) {
        boolean constant = Modifier.isStatic(field.getModifiers());
        fields += constant ? 0 : 1;
        due.holds(field + " is final", !constant || Modifier.isFinal(field.getModifiers()));
      }
      due.holds(inside + " has some twenty fields at most", fields <= 20);
      for (Method method : inside.getDeclaredMethods()) {
        due.holds(method + " takes seven at most", method.getParameterCount() <= 7);
      }
      for (Constructor<?> constructor : inside.getDeclaredConstructors()) {
        due.holds(constructor + " takes seven at most", constructor.getParameterCount() <= 7);
      }
    }
  }

  private void source(String whole) {
    String code = whole.replaceAll("(?s)/\\*.*?\\*/", "").replaceAll("//[^\n]*", "").replaceAll("\"[^\"]*\"", "\"\"");
    String[] banned = {
      "import", "package", "double", "float", "catch", "try", "finally", "synchronized", "assert", "instanceof",
      "native", "volatile", "transient", "strictfp", "var", "Object", "null",
    };
    for (String word : banned) {
      due.holds("no word " + word, !Pattern.compile("\\b" + word + "\\b").matcher(code).find());
    }
    due.holds("no lambda", !code.contains("->") && !code.contains("::"));
    Matcher calls = Pattern.compile("\\b(Math|Long|Integer|System|Arrays|Double|Float|String)\\.\\w+").matcher(code);
    while (calls.find()) {
      due.holds(calls.group() + " is in the library", LIBRARY.contains(calls.group()));
    }
    Matcher thrown = Pattern.compile("\\bthrow\\b\\s+(new\\s+)?(\\w+)\\s*\\(\"\"\\)").matcher(code);
    int seen = 0;
    while (thrown.find()) {
      seen++;
      due.holds(thrown.group() + " may be thrown", EXCEPTIONS.contains(thrown.group(2)));
    }
    due.holds("every throw is of that form", seen == code.split("\\bthrow\\b", -1).length - 1);
    due.holds("plain characters", whole.chars().allMatch(c -> c == '\n' || c >= 32 && c < 127));
  }
}
