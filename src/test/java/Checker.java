/** Counts and prints wrong answers, and takes pictures of all that an object shows. */
final class Checker {
  private int checks = 0;
  private int wrong = 0;
  private int sentences = 0;
  private int checksBeforeSentence = 0;
  private String sentence = "";

  /** Says which sentence of the document the checks from here on are about. */
  void about(String place, String words) {
    endSentence();
    sentences++;
    checksBeforeSentence = checks;
    sentence = place + ", \"" + words + "\": ";
  }

  /** A sentence that no check followed has no test, so it counts as a wrong answer. */
  private void endSentence() {
    if (sentences > 0 && checks == checksBeforeSentence) {
      say("nothing was looked at");
    }
  }

  private void say(String fault) {
    wrong++;
    System.out.println(sentence + fault);
  }

  void same(String what, long got, long want) {
    checks++;
    if (got != want) {
      say(what + " answered " + got + ", due is " + want);
    }
  }

  void same(String what, boolean got, boolean want) {
    checks++;
    if (got != want) {
      say(what + " answered " + got + ", due is " + want);
    }
  }

  void same(String what, String got, String want) {
    checks++;
    if (!got.equals(want)) {
      say(what + ": shows\n" + got + "due is\n" + want);
    }
  }

  /** Ends the test, with exit code 1 if an answer was wrong or none was looked at. */
  void end() {
    endSentence();
    String about = sentences == 0 ? "" : " about " + sentences + " sentences";
    System.out.println(checks + " checks" + about + ", " + wrong + " wrong");
    if (wrong != 0 || checks == 0) {
      System.exit(1);
    }
  }

  /** Every answer of every getter, also for ids and names just outside the ranges. */
  static String picture(IncrAttrEval t) {
    StringBuilder s = new StringBuilder();
    s.append("root ").append(t.getRoot()).append(" count ").append(t.nodeCount()).append('\n');
    for (int n = -2; n <= IncrAttrEval.MAX_CAP + 1; n++) {
      s.append(node(t, n));
    }
    return s.toString();
  }

  /** The root and every answer for every id from 0 up but those left out, which must be in order. */
  static String pictureWithout(IncrAttrEval t, int... leftOut) {
    StringBuilder s = new StringBuilder();
    s.append("root ").append(t.getRoot()).append('\n');
    int next = 0;
    for (int n = 0; n < IncrAttrEval.MAX_CAP; n++) {
      if (next < leftOut.length && leftOut[next] == n) {
        next++;
      } else {
        s.append(node(t, n));
      }
    }
    return s.toString();
  }

  private static String node(IncrAttrEval t, int n) {
    return n + ": kind " + t.getKind(n) + " parent " + t.getParent(n) + attributes(t, n) + "\n";
  }

  /** The answers of the attribute getters for one id. */
  static String attributes(IncrAttrEval t, int n) {
    StringBuilder s = new StringBuilder();
    s.append(" val ").append(t.getVal(n)).append(" errs ").append(t.getErrs(n));
    s.append(" size ").append(t.getSize(n)).append(" depth ").append(t.getDepth(n)).append(" env");
    for (int x = -1; x <= IncrAttrEval.NAMES; x++) {
      s.append(' ').append(t.getEnv(n, x)).append(t.isBound(n, x) ? "b" : "u");
    }
    return s.toString();
  }
}
