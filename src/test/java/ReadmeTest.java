import java.io.File;
import java.io.IOException;
import java.lang.reflect.Method;
import java.lang.reflect.Modifier;
import java.nio.file.Files;
import java.nio.file.Path;
import java.util.ArrayList;
import java.util.Arrays;
import java.util.Comparator;
import java.util.List;
import java.util.Set;
import java.util.TreeSet;
import java.util.regex.MatchResult;
import java.util.regex.Pattern;
import java.util.stream.Collectors;
import java.util.stream.Stream;

/** What README.md says: its calls compile and answer as told, its tables hold, its commands run. */
public final class ReadmeTest {
  private static final Path README = Path.of("README.md");
  private static final String ALL_TESTS = ".ci/run";

  private final Due due = new Due();
  private final String text;

  private ReadmeTest(String text) {
    this.text = text;
  }

  public static void main(String[] args) throws IOException, InterruptedException, ReflectiveOperationException {
    ReadmeTest test = new ReadmeTest(Files.readString(README));
    Path scratch = Files.createTempDirectory("readme");
    // Not by finally: an answer that is not as due ends the machine before that.
    Runtime.getRuntime().addShutdownHook(new Thread(() -> delete(scratch)));
    test.everyMethodIsShown();
    test.acts();
    test.directions();
    test.machine();
    test.casts();
    test.testsAreNamed();
    test.commands(scratch);
    test.program(scratch);
    test.due.end();
  }

  private static void delete(Path directory) {
    try (Stream<Path> all = Files.walk(directory)) {
      all.sorted(Comparator.reverseOrder()).map(Path::toFile).forEach(File::delete);
    } catch (IOException e) {
      System.out.println(directory + " is left: " + e);
    }
  }

  private void program(Path scratch) throws IOException, ReflectiveOperationException {
    ReadmeProgram program = new ReadmeProgram(String.join("", blocks("java")).lines().toList());
    due.holds("README.md shows calls with answers", program.told() > 0);
    program.run(scratch);
  }

  private void everyMethodIsShown() {
    String shown = String.join("", blocks("java"));
    for (Method method : NumberModels.class.getDeclaredMethods()) {
      if (Modifier.isPublic(method.getModifiers())) {
        due.holds("README.md shows " + method.getName(), shown.contains("numbers." + method.getName() + "("));
      }
    }
  }

  private void acts() {
    for (String[] row : table("act(act, a, b)", 13)) {
      int act = Integer.parseInt(row[0]);
      Prepared object = new Prepared(row[2], row[3]);
      Exact want = Exact.of(row[4]);
      int made = object.x.act(act, object.at(0), object.at(1));
      String what = "README.md: act(" + act + ") of " + row[2] + " and " + row[3];
      due.is(what + ": sign", () -> object.x.sign(made), want.p().signum());
      for (int k = 0; k < 16; k++) {
        int word = k;
        due.is(what + ": word " + k, () -> object.x.word(made, word), want.word(k));
      }
    }
  }

  private void directions() {
    List<String> head = head("nearest(a, direction), single(a, direction)");
    for (String[] row : table("nearest(a, direction), single(a, direction)", 4)) {
      int direction = Integer.parseInt(row[0]);
      for (int column = 2; column < row.length; column++) {
        Prepared object = new Prepared(head.get(column).substring("of ".length()));
        float got = Float.intBitsToFloat(object.x.single(object.at(0), direction));
        due.same("README.md: direction " + direction + " " + head.get(column), Float.toString(got), row[column]);
      }
    }
  }

  private void machine() {
    for (String[] row : table("machine(kind, x, y)", 11)) {
      int kind = Integer.parseInt(row[0]);
      long x = bits(row[2]);
      long y = kind == 9 ? Long.parseLong(row[3]) : bits(row[3]);
      long got = new NumberModels().machine(kind, x, y);
      String shown = kind == 10 ? Long.toString(got) : Double.toString(Double.longBitsToDouble(got));
      due.same("README.md: machine(" + kind + ") of " + row[2] + " and " + row[3], shown, row[4]);
    }
  }

  /** Of an empty field: any bits will do. */
  private static long bits(String field) {
    return field.isEmpty() ? -1L : Double.doubleToLongBits(Double.parseDouble(field));
  }

  private void casts() {
    for (String[] row : table("cast(kind, x)", 7)) {
      int kind = Integer.parseInt(row[0]);
      long x = kind == 6 ? Long.parseLong(row[2]) : bits(row[2]);
      due.is("README.md: cast(" + kind + ") of " + row[2], () -> new NumberModels().cast(kind, x), Long.parseLong(row[3]));
    }
  }

  private void testsAreNamed() throws IOException {
    Set<String> there = new TreeSet<>();
    try (Stream<Path> files = Files.list(Path.of("src/test/java"))) {
      files.map(file -> file.getFileName().toString())
          .filter(name -> name.endsWith("Test.java"))
          .forEach(name -> there.add(name.replace(".java", "")));
    }
    Set<String> named = Pattern.compile("`(\\w+Test)`").matcher(text).results()
        .map(match -> match.group(1)).collect(Collectors.toCollection(TreeSet::new));
    due.same("README.md: the tests that it names", named.toString(), there.toString());
  }

  /** All but the one that runs this test. */
  private void commands(Path scratch) throws IOException, InterruptedException {
    boolean tellsAll = false;
    for (String block : blocks("sh")) {
      if (block.strip().equals(ALL_TESTS)) {
        tellsAll = true;
        continue;
      }
      String command = block.replaceAll("\\bout\\b", scratch.toString());
      Process process = new ProcessBuilder("sh", "-e", "-c", command).inheritIO().start();
      due.same("README.md: exit code of " + block, Integer.toString(process.waitFor()), "0");
    }
    due.holds("README.md says that " + ALL_TESTS + " runs the tests", tellsAll);
    due.holds(ALL_TESTS + " can be run", Files.isExecutable(Path.of(ALL_TESTS)));
  }

  private List<String> blocks(String language) {
    return Pattern.compile("(?s)\n```" + language + "\n(.*?)```\n").matcher(text).results()
        .map(match -> match.group(1)).toList();
  }

  private List<String> head(String heading) {
    return List.of(rows(heading).get(0));
  }

  /** Below a heading, without the head; its first fields are to be the kinds, each one once. */
  private List<String[]> table(String heading, int kinds) {
    List<String[]> all = rows(heading);
    List<String[]> rows = all.subList(2, all.size());
    due.is("README.md: rows of " + heading, rows::size, kinds);
    for (int kind = 0; kind < rows.size(); kind++) {
      due.same("README.md: row of " + heading, rows.get(kind)[0], Integer.toString(kind));
    }
    return rows;
  }

  private List<String[]> rows(String heading) {
    List<String[]> rows = new ArrayList<>();
    int start = text.indexOf("\n### " + heading + "\n");
    due.holds("README.md has a heading " + heading, start >= 0);
    int next = text.indexOf("\n#", start + 1);
    String part = text.substring(start, next < 0 ? text.length() : next);
    for (MatchResult row : Pattern.compile("(?m)^\\| *(.*?) *\\|$").matcher(part).results().toList()) {
      rows.add(Arrays.stream(row.group(1).split("\\|")).map(String::strip).toArray(String[]::new));
    }
    return rows;
  }
}
