/** Promise 1, sentence by sentence: the edges of the capacity, and the empty object. */
public final class BoundaryConstructionTest {
  private static final String PLACE = "Promise 1";
  private static final int NONE = IncrAttrEval.NONE;
  private static final Checker check = new Checker();

  public static void main(String[] args) {
    anyIntIsAccepted();
    belowTheRange();
    aboveTheRange();
    withinTheRange();
    capNeverChanges();
    newObjectHasNoNodes();
    noIdIsValid();
    check.end();
  }

  private static void anyIntIsAccepted() {
    check.about(PLACE, "`IncrAttrEval(int capacity)` accepts any int.");
    for (int bit = 0; bit < 32; bit++) {
      for (int near = -1; near <= 1; near++) {
        int capacity = (1 << bit) + near;
        IncrAttrEval t = new IncrAttrEval(capacity);
        for (int n = 0; n < 8; n++) {
          check.same("capacity " + capacity + ", newNum", t.newNum(n), n);
        }
      }
    }
  }

  private static void belowTheRange() {
    check.about(PLACE, "a capacity below 8 (including negative values and Integer.MIN_VALUE) gives CAP = 8");
    int[] capacities = {7, 6, 1, 0, -1, -7, -8, -9, -16, -32, -33, -240, -248, -65520,
      Integer.MIN_VALUE + 16, Integer.MIN_VALUE + 1, Integer.MIN_VALUE};
    for (int capacity : capacities) {
      holdsExactly(capacity, 8);
    }
  }

  private static void aboveTheRange() {
    check.about(PLACE, "a capacity above 32 (up to Integer.MAX_VALUE) gives CAP = 32");
    int[] capacities = {33, 34, 40, 64, 127, 128, 255, 256, 264, 272, 65536, 65552, 1 << 30,
      Integer.MAX_VALUE - 1, Integer.MAX_VALUE};
    for (int capacity : capacities) {
      holdsExactly(capacity, 32);
    }
  }

  private static void withinTheRange() {
    check.about(PLACE, "and any capacity from 8 to 32 gives CAP equal to it");
    for (int capacity = 8; capacity <= 32; capacity++) {
      holdsExactly(capacity, capacity);
    }
  }

  /** Each creation call finds the last place, and none finds another. */
  private static void holdsExactly(int capacity, int cap) {
    for (int call = 0; call < 4; call++) {
      String what = "capacity " + capacity + ", ";
      IncrAttrEval t = Forest.nums(capacity, cap - 1);
      check.same(what + "nodeCount before the last", t.nodeCount(), cap - 1);
      check.same(what + "the last place for call " + call, create(t, call, 0, 1), cap - 1);
      check.same(what + "nodeCount when full", t.nodeCount(), cap);
      for (int next = 0; next < 4; next++) {
        check.same(what + "no place for call " + next, create(t, next, 2, 3), NONE);
      }
      check.same(what + "nodeCount afterwards", t.nodeCount(), cap);
    }
  }

  private static int create(IncrAttrEval t, int call, int a, int b) {
    switch (call) {
      case 0: return t.newNum(5);
      case 1: return t.newVar(5);
      case 2: return t.newOp(IncrAttrEval.MUL, a, b);
      default: return t.newLet(5, a, b);
    }
  }

  private static void capNeverChanges() {
    check.about(PLACE, "CAP never changes afterwards.");
    for (int capacity : new int[] {Integer.MIN_VALUE, 0, 8, 9, 20, 31, 32, 33, Integer.MAX_VALUE}) {
      int cap = capacity < 8 ? 8 : Math.min(capacity, 32);
      IncrAttrEval t = Forest.make(capacity);
      askMuch(t);
      for (int made = Forest.MADE; made < cap; made++) {
        check.same("capacity " + capacity + ", newNum", t.newNum(made), made);
        askMuch(t);
      }
      check.same("capacity " + capacity + ", newNum when full", t.newNum(0), NONE);
      askMuch(t);
      check.same("capacity " + capacity + ", newNum after more calls", t.newNum(0), NONE);
      check.same("capacity " + capacity + ", newVar after more calls", t.newVar(0), NONE);
      check.same("capacity " + capacity + ", nodeCount", t.nodeCount(), cap);
    }
  }

  /** Calls of each kind but creation, taken and refused; the forest is then as it was. */
  private static void askMuch(IncrAttrEval t) {
    check.same("setRoot(5)", t.setRoot(5), true);
    check.same("setRoot(2)", t.setRoot(2), true);
    check.same("replace(1, 7)", t.replace(1, 7), true);
    check.same("replace(7, 1)", t.replace(7, 1), true);
    t.setRoot(-1);
    t.replace(1, 33);
    t.newOp(IncrAttrEval.LET, 5, 6);
    t.newLet(8, 5, 6);
    t.newVar(-1);
    Checker.picture(t);
  }

  private static void newObjectHasNoNodes() {
    check.about(PLACE, "The new object has no nodes: nodeCount() is 0 and getRoot() is NONE.");
    for (int capacity : new int[] {Integer.MIN_VALUE, -1, 0, 7, 8, 9, 31, 32, 33, Integer.MAX_VALUE}) {
      IncrAttrEval t = new IncrAttrEval(capacity);
      check.same("capacity " + capacity + ", nodeCount", t.nodeCount(), 0);
      check.same("capacity " + capacity + ", getRoot", t.getRoot(), NONE);
    }
  }

  private static void noIdIsValid() {
    check.about(PLACE, "No id is valid, so no node is attached and no node is a free root.");
    for (int n = 0; n < 32; n++) {
      looksNotValid(n);
    }
    for (int n : Forest.NEVER_VALID) {
      looksNotValid(n);
    }
  }

  private static void looksNotValid(int n) {
    for (int capacity : new int[] {8, 32}) {
      IncrAttrEval t = new IncrAttrEval(capacity);
      String what = "new object, id " + n + ", ";
      check.same(what + "getKind", t.getKind(n), 0);
      check.same(what + "getParent", t.getParent(n), NONE);
      check.same(what + "getVal", t.getVal(n), 0);
      check.same(what + "getErrs", t.getErrs(n), -1);
      check.same(what + "getSize", t.getSize(n), -1);
      check.same(what + "getDepth", t.getDepth(n), -1);
      check.same(what + "getEnv", t.getEnv(n, 0), 0);
      check.same(what + "isBound", t.isBound(n, 0), false);
      check.same(what + "setRoot", t.setRoot(n), false);
      check.same(what + "replace as old and new", t.replace(n, n), false);
      check.same(what + "newOp", t.newOp(IncrAttrEval.ADD, n, n + 1), NONE);
      check.same(what + "newLet", t.newLet(0, n, n + 1), NONE);
      check.same(what + "nodeCount afterwards", t.nodeCount(), 0);
      check.same(what + "getRoot afterwards", t.getRoot(), NONE);
      check.same(what + "the first node's id", t.newNum(1), 0);
      check.same(what + "replace of it", t.replace(n, 0), false);
    }
  }
}
