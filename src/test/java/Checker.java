/** Counts and prints wrong answers, and takes pictures of all that an object shows. */
final class Checker {
  private int checks = 0;
  private int wrong = 0;

  void same(String what, long got, long want) {
    checks++;
    if (got != want) {
      wrong++;
      System.out.println(what + " answered " + got + ", due is " + want);
    }
  }

  void same(String what, boolean got, boolean want) {
    checks++;
    if (got != want) {
      wrong++;
      System.out.println(what + " answered " + got + ", due is " + want);
    }
  }

  void same(String what, String got, String want) {
    checks++;
    if (!got.equals(want)) {
      wrong++;
      System.out.println(what + ": shows\n" + got + "due is\n" + want);
    }
  }

  /** Ends the test, with exit code 1 if an answer was wrong or none was looked at. */
  void end() {
    System.out.println(checks + " checks, " + wrong + " wrong");
    if (wrong != 0 || checks == 0) {
      System.exit(1);
    }
  }

  /** Every answer of every getter, also for ids and names just outside the ranges. */
  static String picture(IncrAttrEval t) {
    StringBuilder s = new StringBuilder();
    s.append("root ").append(t.getRoot()).append(" count ").append(t.nodeCount()).append('\n');
    for (int n = -2; n <= IncrAttrEval.MAX_CAP + 1; n++) {
      s.append(n).append(": kind ").append(t.getKind(n)).append(" parent ").append(t.getParent(n));
      s.append(attributes(t, n)).append('\n');
    }
    return s.toString();
  }

  /** The answers of the attribute getters for one id. */
  static String attributes(IncrAttrEval t, int n) {
    StringBuilder s = new StringBuilder();
    s.append(" val ").append(t.getVal(n)).append(" errs ").append(t.getErrs(n));
    s.append(" size ").append(t.getSize(n)).append(" depth ").append(t.getDepth(n)).append(" env");
    for (int x = -1; x <= IncrAttrEval.NAMES; x++) {
      s.append(' ').append(t.getEnv(n, x)).append(t.isBound(n, x) ? "b" : "u");
    }
    return s.toString();
  }
}
