/** Promise 1: the capacity is clamped, and a new object is empty. */
public final class ConstructionTest {
  private static final Checker check = new Checker();

  public static void main(String[] args) {
    int[] given = {Integer.MIN_VALUE, Integer.MIN_VALUE + 1, -32, -1, 0, 1, 7, 8, 9, 10, 16, 31, 32, 33, 64,
      Integer.MAX_VALUE - 1, Integer.MAX_VALUE};
    int[] cap = {8, 8, 8, 8, 8, 8, 8, 8, 9, 10, 16, 31, 32, 32, 32, 32, 32};
    for (int i = 0; i < given.length; i++) {
      holdsExactly(given[i], cap[i]);
    }
    for (int c = IncrAttrEval.MIN_CAP; c <= IncrAttrEval.MAX_CAP; c++) {
      holdsExactly(c, c);
    }
    emptyObjectHasNoValidId();
    objectsShareNothing();
    check.end();
  }

  private static void holdsExactly(int capacity, int cap) {
    String what = "capacity " + capacity + ": ";
    IncrAttrEval t = new IncrAttrEval(capacity);
    check.same(what + "nodeCount", t.nodeCount(), 0);
    check.same(what + "getRoot", t.getRoot(), IncrAttrEval.NONE);
    for (int n = 0; n < cap; n++) {
      check.same(what + "newNum " + n, t.newNum(n), n);
    }
    check.same(what + "newNum when full", t.newNum(0), IncrAttrEval.NONE);
    check.same(what + "nodeCount when full", t.nodeCount(), cap);
    t.setRoot(cap - 1);
    check.same(what + "newNum after setRoot", t.newNum(0), IncrAttrEval.NONE);
    check.same(what + "last node's value", t.getVal(cap - 1), cap - 1);
  }

  private static void emptyObjectHasNoValidId() {
    IncrAttrEval t = new IncrAttrEval(16);
    String before = Checker.picture(t);
    for (int n = -2; n <= 33; n++) {
      String what = "empty object, id " + n + ": ";
      check.same(what + "setRoot", t.setRoot(n), false);
      check.same(what + "replace", t.replace(n, n), false);
      check.same(what + "newOp", t.newOp(IncrAttrEval.ADD, n, n + 1), IncrAttrEval.NONE);
      check.same(what + "newLet", t.newLet(0, n, n + 1), IncrAttrEval.NONE);
      check.same(what + "getKind", t.getKind(n), 0);
      check.same(what + "getParent", t.getParent(n), IncrAttrEval.NONE);
      check.same(what + "getVal", t.getVal(n), 0);
      check.same(what + "getErrs", t.getErrs(n), -1);
      check.same(what + "getSize", t.getSize(n), -1);
      check.same(what + "getDepth", t.getDepth(n), -1);
      check.same(what + "getEnv", t.getEnv(n, 0), 0);
      check.same(what + "isBound", t.isBound(n, 0), false);
    }
    check.same("empty object after refusals", Checker.picture(t), before);
  }

  private static void objectsShareNothing() {
    IncrAttrEval one = new IncrAttrEval(8);
    IncrAttrEval two = new IncrAttrEval(8);
    String before = Checker.picture(two);
    one.newNum(4);
    one.setRoot(0);
    check.same("another object", Checker.picture(two), before);
  }
}
