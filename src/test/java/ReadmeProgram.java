import java.io.File;
import java.io.IOException;
import java.net.URL;
import java.net.URLClassLoader;
import java.nio.file.Files;
import java.nio.file.Path;
import java.util.ArrayList;
import java.util.List;
import java.util.regex.Matcher;
import java.util.regex.Pattern;
import javax.tools.JavaCompiler;
import javax.tools.ToolProvider;

/**
 * The Java blocks of README.md, one after the other, as a program of their own: a call with a
 * comment answers what the comment says up to its colon, or throws it.
 */
final class ReadmeProgram {
  private static final String NAME = "Shown";
  private static final Pattern TOLD = Pattern.compile("(.*;)\\s*// (.*?)(: .*)?");
  private static final Pattern DECLARED = Pattern.compile("\\w+ (\\w+) = .*;");

  private final List<String> lines;

  ReadmeProgram(List<String> lines) {
    this.lines = lines;
  }

  /** How many of the calls tell an answer. */
  int told() {
    return (int) lines.stream().filter(line -> TOLD.matcher(line).matches()).count();
  }

  /** Compiles and runs it in a directory; ends with exit code 1 if an answer is not the one that is due. */
  void run(Path directory) throws IOException, ReflectiveOperationException {
    Path source = directory.resolve(NAME + ".java");
    Files.writeString(source, source());
    String ownClasses = System.getProperty("java.class.path");
    JavaCompiler compiler = ToolProvider.getSystemJavaCompiler();
    if (compiler == null
        || compiler.run(null, null, null, "-cp", ownClasses, "-d", directory.toString(), source.toString()) != 0) {
      throw new IllegalStateException("what README.md shows does not compile");
    }
    List<URL> places = new ArrayList<>();
    places.add(directory.toUri().toURL());
    for (String place : ownClasses.split(File.pathSeparator)) {
      places.add(Path.of(place).toUri().toURL());
    }
    // All by one loader of its own: only so may the new class use the tests' package-visible ones.
    try (URLClassLoader loader = new URLClassLoader(places.toArray(new URL[0]), ClassLoader.getPlatformClassLoader())) {
      loader.loadClass(NAME).getMethod("main", String[].class).invoke(null, (Object) new String[0]);
    }
  }

  private String source() {
    StringBuilder text = new StringBuilder();
    text.append("public final class ").append(NAME).append(" {\n");
    text.append("  static void asItStands() {\n");
    lines.forEach(line -> text.append(line).append('\n'));
    text.append("  }\n\n  public static void main(String[] args) {\n    Due due = new Due();\n");
    lines.forEach(line -> text.append(looked(line)).append('\n'));
    return text.append("    due.end();\n  }\n}\n").toString();
  }

  private static String looked(String line) {
    Matcher told = TOLD.matcher(line);
    if (!told.matches()) {
      return line;
    }
    String statement = told.group(1);
    String answer = told.group(2);
    String call = statement.substring(0, statement.length() - 1);
    String name = "\"README.md: " + statement.replace("\"", "\\\"") + "\"";
    if (answer.startsWith("throws ")) {
      return "due.fails(" + name + ", " + answer.substring("throws ".length()) + ".class, () -> " + call + ");";
    }
    Matcher declared = DECLARED.matcher(statement);
    boolean declares = declared.matches();
    String got = declares ? declared.group(1) : call;
    return (declares ? statement + " " : "")
        + "due.same(" + name + ", String.valueOf(" + got + "), String.valueOf(" + answer + "));";
  }
}
