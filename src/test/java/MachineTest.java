/** Every kind of promises 16 and 17 for every pair of edges, beside what the machine itself does. */
public final class MachineTest {
  public static void main(String[] args) {
    Due due = new Due();
    NumberModels real = new NumberModels();
    for (long x : DoubleEdges.BITS) {
      for (int kind = 0; kind <= 6; kind++) {
        int cast = kind;
        due.is("cast(" + kind + ", " + x + ")", () -> real.cast(cast, x), Model.cast(kind, x));
      }
      for (long y : DoubleEdges.BITS) {
        for (int kind = 0; kind <= 10; kind++) {
          int made = kind;
          due.is("machine(" + kind + ", " + x + ", " + y + ")", () -> real.machine(made, x, y), Model.machine(kind, x, y));
        }
      }
      for (int n = -3100; n <= 3100; n += n > -1200 && n < 1200 ? 1 : 50) {
        long scaling = n;
        due.is("machine(9, " + x + ", " + n + ")", () -> real.machine(9, x, scaling), Model.machine(9, x, scaling));
      }
    }
    due.is("count()", real::count, 0);
    due.end();
  }
}
