/**
 * Promises 1 to 16 together: long runs of calls, each answer and the whole
 * picture after it compared with a model that works the equations out afresh
 * for every question. The runs are fixed: the same on every machine.
 */
public final class ModelTest {
  private static final int NONE = IncrAttrEval.NONE;
  private static final Checker check = new Checker();
  private static long seed;
  // In every other run great subtrees are kept in the tree, and all names are used.
  private static boolean great;

  public static void main(String[] args) {
    for (int run = 0; run < 600; run++) {
      seed = 7919L * run + 1;
      great = run % 2 == 1;
      playRun(run);
    }
    check.end();
  }

  private static int pick(int bound) {
    seed = seed * 6364136223846793005L + 1442695040888963407L;
    return (int) ((seed >>> 33) % bound);
  }

  private static void playRun(int run) {
    int capacity = run % 40;
    IncrAttrEval t = new IncrAttrEval(capacity);
    Model m = new Model(capacity);
    for (int call = 0; call < 200; call++) {
      String what = "run " + run + ", call " + call + ": ";
      playCall(what, t, m);
      check.same(what + "the picture after it", Checker.picture(t), m.picture());
    }
    m.sameAsFreshBuild(check, "run " + run, t, capacity);
  }

  private static void playCall(String what, IncrAttrEval t, Model m) {
    int name = pick(20) == 0 ? pick(12) - 2 : pick(great ? 8 : 3);
    int a = pickFree(m);
    int b = pickFree(m);
    switch (pick(m.count < m.cap ? 9 : 15)) {
      case 0: {
        int c = pick(4) == 0 ? pick(Integer.MAX_VALUE) * 2 + pick(2) : pick(9) - 4;
        check.same(what + "newNum(" + c + ")", t.newNum(c), m.make(IncrAttrEval.NUM, c, NONE, NONE));
        break;
      }
      case 1:
      case 2:
        check.same(what + "newVar(" + name + ")", t.newVar(name), m.newVar(name));
        break;
      case 3:
      case 4: {
        int kind = pick(20) == 0 ? pick(9) - 1 : 3 + pick(3);
        check.same(what + "newOp(" + kind + ", " + a + ", " + b + ")", t.newOp(kind, a, b), m.newOp(kind, a, b));
        break;
      }
      case 5:
      case 6:
        check.same(what + "newLet(" + name + ", " + a + ", " + b + ")", t.newLet(name, a, b), m.newLet(name, a, b));
        break;
      case 7:
        a = greatest(m, a);
        check.same(what + "setRoot(" + a + ")", t.setRoot(a), m.setRoot(a));
        break;
      default: {
        int old = leafOf(m, pickAttached(m));
        int nw = pick(3) == 0 ? greatest(m, a) : a;
        check.same(what + "replace(" + old + ", " + nw + ")", t.replace(old, nw), m.replace(old, nw));
        break;
      }
    }
  }

  /** In a run with great subtrees, the greatest free one in place of the given one. */
  private static int greatest(Model m, int given) {
    int best = given;
    for (int n = 0; great && m.free(given) && n < m.count; n++) {
      best = m.free(n) && m.size(n) > m.size(best) ? n : best;
    }
    return best;
  }

  /** In a run with great subtrees, mostly a leaf below the given attached node in place of it. */
  private static int leafOf(Model m, int given) {
    int n = given;
    while (great && m.attached(n) && m.size(n) > 1 && pick(8) != 0) {
      n = m.slot(n, pick(2));
    }
    return n;
  }

  /** Mostly a free root, now and then any id at all. */
  private static int pickFree(Model m) {
    int start = pick(m.cap + 4) - 2;
    if (pick(12) == 0) {
      return start;
    }
    for (int i = 0; i < 40; i++) {
      int n = (start + 2 + i) % 40;
      if (m.free(n)) {
        return n;
      }
    }
    return start;
  }

  /** Mostly an attached node, now and then any id at all. */
  private static int pickAttached(Model m) {
    int start = pick(m.cap + 4) - 2;
    if (pick(12) == 0) {
      return start;
    }
    for (int i = 0; i < 40; i++) {
      int n = (start + 2 + i) % 40;
      if (m.attached(n)) {
        return n;
      }
    }
    return start;
  }
}
