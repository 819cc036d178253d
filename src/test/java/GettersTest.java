/** Promises 8 to 16: the getters, one method for each promise. */
public final class GettersTest {
  private static final int NONE = IncrAttrEval.NONE;
  private static final int ADD = IncrAttrEval.ADD;
  private static final int SUB = IncrAttrEval.SUB;
  private static final int MUL = IncrAttrEval.MUL;
  private static final int[] FAR = {Integer.MIN_VALUE, Integer.MIN_VALUE + 1, -256, -32, -2, -1, 32, 33, 256,
    Integer.MAX_VALUE - 1, Integer.MAX_VALUE};
  private static final Checker check = new Checker();

  public static void main(String[] args) {
    rootIsAnswered();
    nodesAreCounted();
    kindsAreAnswered();
    parentsAreAnswered();
    valuesFollowTheEquations();
    valuesWrapAround();
    errsAreCounted();
    sizesAreCounted();
    depthsAreCounted();
    envsFollowTheEquations();
    namesOutsideAreUnbound();
    notAttachedIdsGetTheirAnswers();
    gettersChangeNothing();
    check.end();
  }

  /**
   * Root 10: (let 2 = 7 in name 2 * name 3) + (4 - name 2), where 0 to 4 make the let, 5 to 7 the SUB;
   * 8 and 9 are a free let's parts under 11, 12 a free NUM.
   */
  private static IncrAttrEval tree() {
    IncrAttrEval t = new IncrAttrEval(16);
    t.newNum(7);
    t.newVar(2);
    t.newVar(3);
    t.newOp(MUL, 1, 2);
    t.newLet(2, 0, 3);
    t.newNum(4);
    t.newVar(2);
    t.newOp(SUB, 5, 6);
    t.newNum(1);
    t.newVar(1);
    t.newOp(ADD, 4, 7);
    t.newLet(1, 8, 9);
    t.newNum(20);
    t.setRoot(10);
    return t;
  }

  private static void answers(String getter, int[] got, int... want) {
    check.same(getter + " answers", got.length, want.length);
    for (int n = 0; n < want.length; n++) {
      check.same(getter + " of " + n, got[n], want[n]);
    }
  }

  private static void rootIsAnswered() {
    IncrAttrEval t = new IncrAttrEval(8);
    check.same("root of a new object", t.getRoot(), NONE);
    t.newNum(1);
    t.newNum(2);
    check.same("root before setRoot", t.getRoot(), NONE);
    t.setRoot(1);
    check.same("root after setRoot", t.getRoot(), 1);
    t.setRoot(9);
    check.same("root after a refusal", t.getRoot(), 1);
    t.replace(1, 0);
    check.same("root after replace", t.getRoot(), 0);
  }

  private static void nodesAreCounted() {
    IncrAttrEval t = tree();
    check.same("nodeCount", t.nodeCount(), 13);
    t.newVar(-1);
    t.newOp(ADD, 0, 12);
    t.newLet(9, 11, 12);
    check.same("nodeCount after refusals", t.nodeCount(), 13);
    t.replace(0, 12);
    t.setRoot(11);
    check.same("nodeCount after splices", t.nodeCount(), 13);
    t.newNum(0);
    t.newNum(0);
    t.newNum(0);
    t.newNum(0);
    check.same("nodeCount when full", t.nodeCount(), 16);
  }

  private static void kindsAreAnswered() {
    IncrAttrEval t = tree();
    int[] got = new int[14];
    for (int n = 0; n < got.length; n++) {
      got[n] = t.getKind(n);
    }
    answers("getKind", got, 1, 2, 2, 5, 6, 1, 2, 4, 1, 2, 3, 6, 1, 0);
    for (int n : FAR) {
      check.same("getKind of " + n, t.getKind(n), 0);
    }
    t.setRoot(12);
    check.same("kind of a node now detached", t.getKind(4), IncrAttrEval.LET);
  }

  private static void parentsAreAnswered() {
    IncrAttrEval t = tree();
    int[] got = new int[14];
    for (int n = 0; n < got.length; n++) {
      got[n] = t.getParent(n);
    }
    answers("getParent", got, 4, 3, 3, 4, 10, 7, 7, 10, 11, 11, -1, -1, -1, -1);
    for (int n : FAR) {
      check.same("getParent of " + n, t.getParent(n), NONE);
    }
    t.setRoot(12);
    check.same("parent of a node now detached", t.getParent(4), 10);
  }

  private static void valuesFollowTheEquations() {
    IncrAttrEval t = tree();
    int[] got = new int[14];
    for (int n = 0; n < got.length; n++) {
      got[n] = t.getVal(n);
    }
    answers("getVal", got, 7, 7, 0, 0, 0, 4, 0, 4, 0, 0, 4, 0, 0, 0);
    t.setRoot(11);
    check.same("value of a let", t.getVal(11), 1);
    check.same("value of its body", t.getVal(9), 1);
    check.same("value of a node now detached", t.getVal(10), 0);
  }

  private static void valuesWrapAround() {
    int min = Integer.MIN_VALUE;
    int max = Integer.MAX_VALUE;
    check.same("max + 1", compute(ADD, max, 1), min);
    check.same("min + min", compute(ADD, min, min), 0);
    check.same("min - 1", compute(SUB, min, 1), max);
    check.same("0 - min", compute(SUB, 0, min), min);
    check.same("1 - 2", compute(SUB, 1, 2), -1);
    check.same("min * -1", compute(MUL, min, -1), min);
    check.same("max * max", compute(MUL, max, max), 1);
    check.same("65536 * 65536", compute(MUL, 65536, 65536), 0);
    check.same("123456789 * 987654321", compute(MUL, 123456789, 987654321), -67153019);
    check.same("-6 * 7", compute(MUL, -6, 7), -42);
  }

  private static int compute(int kind, int a, int b) {
    IncrAttrEval t = new IncrAttrEval(8);
    t.newNum(a);
    t.newNum(b);
    t.newOp(kind, 0, 1);
    t.setRoot(2);
    return t.getVal(2);
  }

  private static void errsAreCounted() {
    IncrAttrEval t = tree();
    int[] got = new int[14];
    for (int n = 0; n < got.length; n++) {
      got[n] = t.getErrs(n);
    }
    answers("getErrs", got, 0, 0, 1, 1, 1, 0, 1, 1, -1, -1, 2, -1, -1, -1);
    IncrAttrEval all = new IncrAttrEval(32);
    int top = all.newVar(0);
    for (int i = 0; i < 15; i++) {
      int v = all.newVar(i % 8);
      top = all.newOp(MUL, top, v);
    }
    all.setRoot(top);
    check.same("errs of sixteen unbound names", all.getErrs(top), 16);
  }

  private static void sizesAreCounted() {
    IncrAttrEval t = tree();
    int[] got = new int[14];
    for (int n = 0; n < got.length; n++) {
      got[n] = t.getSize(n);
    }
    answers("getSize", got, 1, 1, 1, 3, 5, 1, 1, 3, -1, -1, 9, -1, -1, -1);
    t.replace(0, 11);
    check.same("size of the root after a splice", t.getSize(10), 11);
    check.same("size of the let after a splice", t.getSize(4), 7);
    check.same("size of the displaced", t.getSize(0), -1);
  }

  private static void depthsAreCounted() {
    IncrAttrEval t = tree();
    int[] got = new int[14];
    for (int n = 0; n < got.length; n++) {
      got[n] = t.getDepth(n);
    }
    answers("getDepth", got, 2, 3, 3, 2, 1, 2, 2, 1, -1, -1, 0, -1, -1, -1);
    t.replace(1, 11);
    check.same("depth of a node spliced in", t.getDepth(11), 3);
    check.same("depth below it", t.getDepth(9), 4);
    check.same("depth of the displaced", t.getDepth(1), -1);
  }

  private static void envsFollowTheEquations() {
    IncrAttrEval t = tree();
    for (int n = 0; n < 13; n++) {
      for (int x = 0; x < IncrAttrEval.NAMES; x++) {
        boolean bound = x == 2 && n >= 1 && n <= 3;
        check.same("isBound(" + n + ", " + x + ")", t.isBound(n, x), bound);
        check.same("getEnv(" + n + ", " + x + ")", t.getEnv(n, x), bound ? 7 : 0);
      }
    }
    manyNamesAreBoundAtOnce();
    letInAnInitBindsNothingOutside();
  }

  private static void manyNamesAreBoundAtOnce() {
    IncrAttrEval t = new IncrAttrEval(32);
    int leaf = t.newNum(0);
    int top = leaf;
    for (int x = 0; x < IncrAttrEval.NAMES; x++) {
      int init = t.newNum(100 + x);
      top = t.newLet(x, init, top);
    }
    t.setRoot(top);
    for (int x = 0; x < IncrAttrEval.NAMES; x++) {
      check.same("name " + x + " at the leaf", t.getEnv(leaf, x), 100 + x);
      check.same("name " + x + " bound at the leaf", t.isBound(leaf, x), true);
      check.same("name " + x + " bound at the root", t.isBound(top, x), false);
      check.same("name " + x + " bound at its own init", t.isBound(2 * x + 1, x), false);
      check.same("name 7 bound at the init of " + x, t.isBound(2 * x + 1, 7), x != 7);
    }
  }

  private static void letInAnInitBindsNothingOutside() {
    IncrAttrEval t = new IncrAttrEval(8);
    int five = t.newNum(5);
    int inner = t.newVar(0);
    int init = t.newLet(0, five, inner);
    int body = t.newVar(0);
    int top = t.newLet(1, init, body);
    t.setRoot(top);
    check.same("name 0 in the inner body", t.getEnv(inner, 0), 5);
    check.same("name 0 in the outer body", t.isBound(body, 0), false);
    check.same("name 0 in the outer body", t.getEnv(body, 0), 0);
    check.same("name 1 in the outer body", t.getEnv(body, 1), 5);
    check.same("errs", t.getErrs(top), 1);
  }

  private static void namesOutsideAreUnbound() {
    IncrAttrEval t = new IncrAttrEval(8);
    int leaf = t.newNum(0);
    int init = t.newNum(5);
    int top = t.newLet(0, init, leaf);
    t.setRoot(top);
    int[] outside = {Integer.MIN_VALUE, -16, -9, -8, -1, 8, 9, 16, 248, 256, Integer.MAX_VALUE};
    for (int n = 0; n < 3; n++) {
      for (int x : outside) {
        check.same("getEnv(" + n + ", " + x + ")", t.getEnv(n, x), 0);
        check.same("isBound(" + n + ", " + x + ")", t.isBound(n, x), false);
      }
    }
  }

  private static void notAttachedIdsGetTheirAnswers() {
    IncrAttrEval t = tree();
    for (int n : FAR) {
      looksNotAttached(t, n);
    }
    for (int n : new int[] {8, 9, 11, 12, 13, 15, 16}) {
      looksNotAttached(t, n);
    }
    t.setRoot(12);
    for (int n = 0; n < 12; n++) {
      looksNotAttached(t, n);
    }
  }

  private static void looksNotAttached(IncrAttrEval t, int n) {
    check.same("getVal of " + n, t.getVal(n), 0);
    check.same("getErrs of " + n, t.getErrs(n), -1);
    check.same("getSize of " + n, t.getSize(n), -1);
    check.same("getDepth of " + n, t.getDepth(n), -1);
    for (int x : new int[] {Integer.MIN_VALUE, -1, 0, 2, 7, 8, Integer.MAX_VALUE}) {
      check.same("getEnv of " + n + " and " + x, t.getEnv(n, x), 0);
      check.same("isBound of " + n + " and " + x, t.isBound(n, x), false);
    }
  }

  private static void gettersChangeNothing() {
    IncrAttrEval t = tree();
    String first = Checker.picture(t);
    check.same("a second picture", Checker.picture(t), first);
    notAttachedIdsGetTheirAnswers();
    check.same("a third picture", Checker.picture(t), first);
  }
}
