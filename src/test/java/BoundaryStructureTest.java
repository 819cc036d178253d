/** Promises 8 to 11, sentence by sentence: getRoot, nodeCount, getKind and getParent at their edges. */
public final class BoundaryStructureTest {
  private static final int NONE = IncrAttrEval.NONE;
  private static final int ADD = IncrAttrEval.ADD;
  private static final Checker check = new Checker();

  public static void main(String[] args) {
    rootOrNone();
    countFromZeroToCap();
    countGrowsByOneAndNeverShrinks();
    kindOfEveryNode();
    kindOfNoNode();
    parentOfEveryNode();
    parentOfNoNode();
    gettersChangeNothing();
    check.end();
  }

  private static void rootOrNone() {
    check.about("Promise 8", "`getRoot()` answers the root, or NONE when there is none.");
    for (int cap = 8; cap <= 32; cap++) {
      IncrAttrEval t = new IncrAttrEval(cap);
      check.same("getRoot of a new object", t.getRoot(), NONE);
      for (int n = 0; n < cap; n++) {
        t.newNum(n);
        check.same("getRoot after creations alone", t.getRoot(), NONE);
      }
      t.replace(0, 1);
      t.setRoot(cap);
      check.same("getRoot after refusals", t.getRoot(), NONE);
      t.setRoot(cap - 1);
      check.same("getRoot, the last id", t.getRoot(), cap - 1);
      t.setRoot(0);
      check.same("getRoot, the first id", t.getRoot(), 0);
      t.replace(0, 1);
      check.same("getRoot after replace of the root", t.getRoot(), 1);
      t.setRoot(NONE);
      check.same("getRoot after setRoot(NONE)", t.getRoot(), 1);
    }
    IncrAttrEval t = Forest.make(8);
    t.replace(0, 5);
    check.same("getRoot after replace below the root", t.getRoot(), 2);
  }

  private static void countFromZeroToCap() {
    check.about("Promise 9", "`nodeCount()` answers the number of nodes made so far, a value from 0 to CAP.");
    for (int cap = 8; cap <= 32; cap++) {
      IncrAttrEval t = new IncrAttrEval(cap);
      check.same("nodeCount of a new object", t.nodeCount(), 0);
      for (int call = 0; call < 2 * cap; call++) {
        t.newNum(call);
        check.same("nodeCount after call " + call + ", CAP " + cap, t.nodeCount(), Math.min(call + 1, cap));
      }
    }
  }

  private static void countGrowsByOneAndNeverShrinks() {
    check.about("Promise 9", "It grows by one with each successful creation call and never shrinks.");
    IncrAttrEval t = new IncrAttrEval(8);
    countAfter(t, "newNum", t.newNum(1) != NONE, 1);
    countAfter(t, "newVar", t.newVar(0) != NONE, 2);
    countAfter(t, "newVar of no name", t.newVar(8) == NONE, 2);
    countAfter(t, "newOp", t.newOp(ADD, 0, 1) != NONE, 3);
    countAfter(t, "newOp again", t.newOp(ADD, 0, 1) == NONE, 3);
    countAfter(t, "newNum", t.newNum(1) != NONE, 4);
    countAfter(t, "newLet", t.newLet(0, 3, 2) != NONE, 5);
    countAfter(t, "newLet again", t.newLet(0, 3, 2) == NONE, 5);
    countAfter(t, "setRoot", t.setRoot(4), 5);
    countAfter(t, "newNum", t.newNum(1) != NONE, 6);
    countAfter(t, "replace", t.replace(2, 5), 6);
    countAfter(t, "replace of the root by a part of it", t.replace(4, 2), 6);
    countAfter(t, "newVar", t.newVar(7) != NONE, 7);
    countAfter(t, "newNum", t.newNum(1) != NONE, 8);
    countAfter(t, "newNum when full", t.newNum(1) == NONE, 8);
    countAfter(t, "newOp when full", t.newOp(ADD, 6, 7) == NONE, 8);
    countAfter(t, "setRoot when full", t.setRoot(7), 8);
    countAfter(t, "refused setRoot", !t.setRoot(8), 8);
    countAfter(t, "refused replace", !t.replace(0, 8), 8);
  }

  private static void countAfter(IncrAttrEval t, String call, boolean asDue, int count) {
    check.same(call + ", its answer is the due one", asDue, true);
    check.same("nodeCount after " + call, t.nodeCount(), count);
  }

  private static void kindOfEveryNode() {
    check.about("Promise 10", "`getKind(int n)` answers the kind of node n (one of NUM, VAR, ADD, SUB, MUL, LET) "
      + "when n is a valid id, attached or not");
    IncrAttrEval t = new IncrAttrEval(11);
    int[] kind = {1, 2, 3, 1, 4, 2, 5, 1, 6, 1, 2};
    t.newNum(0);
    t.newVar(7);
    t.newOp(IncrAttrEval.ADD, 0, 1);
    t.newNum(-1);
    t.newOp(IncrAttrEval.SUB, 2, 3);
    t.newVar(0);
    t.newOp(IncrAttrEval.MUL, 5, 4);
    t.newNum(6);
    t.newLet(7, 7, 6);
    t.newNum(2);
    t.newVar(1);
    kindsAre("without root", t, kind);
    t.setRoot(8);
    kindsAre("with all but two attached", t, kind);
    t.replace(6, 9);
    kindsAre("with some displaced", t, kind);
    t.setRoot(10);
    kindsAre("with one attached", t, kind);
  }

  private static void kindsAre(String when, IncrAttrEval t, int[] kind) {
    for (int n = 0; n < kind.length; n++) {
      check.same("getKind(" + n + ") " + when, t.getKind(n), kind[n]);
    }
  }

  private static void kindOfNoNode() {
    check.about("Promise 10", "0 when n is not a valid id (negative, or at least nodeCount()).");
    for (int cap = 8; cap <= 32; cap++) {
      IncrAttrEval t = new IncrAttrEval(cap);
      for (int made = 0; made <= cap; made++) {
        check.same("getKind of nodeCount()", t.getKind(made), 0);
        check.same("getKind of nodeCount() + 1", t.getKind(made + 1), 0);
        check.same("getKind of the last id", t.getKind(made - 1), made == 0 ? 0 : IncrAttrEval.VAR);
        check.same("getKind of -1", t.getKind(-1), 0);
        t.newVar(3);
      }
      t.setRoot(0);
      for (int n : Forest.NEVER_VALID) {
        check.same("getKind(" + n + "), CAP " + cap, t.getKind(n), 0);
      }
      for (int n = cap; n < 40; n++) {
        check.same("getKind(" + n + "), CAP " + cap, t.getKind(n), 0);
      }
    }
  }

  private static void parentOfEveryNode() {
    check.about("Promise 11", "`getParent(int n)` answers the parent of node n when n is a valid id, attached or not");
    IncrAttrEval t = Forest.make(8);
    int[] parent = {2, 2, NONE, 5, 5, NONE, NONE, NONE};
    for (int id : new int[] {5, 6, 7, 2}) {
      t.setRoot(id);
      for (int n = 0; n < parent.length; n++) {
        check.same("getParent(" + n + ") with root " + id, t.getParent(n), parent[n]);
      }
    }
    t.replace(0, 5);
    check.same("getParent of the new", t.getParent(5), 2);
    check.same("getParent of the old", t.getParent(0), NONE);
    check.same("getParent below the new", t.getParent(3), 5);
    IncrAttrEval zero = new IncrAttrEval(32);
    for (int made = 0; made < 32; made++) {
      int n = made % 2 == 1 || made == 0 ? zero.newNum(1) : zero.newOp(ADD, made - 2, made - 1);
      check.same("id of the chain", n, made);
    }
    for (int n = 0; n < 30; n++) {
      check.same("getParent(" + n + ") in the longest chain", zero.getParent(n), n % 2 == 0 ? n + 2 : n + 1);
    }
  }

  private static void parentOfNoNode() {
    check.about("Promise 11", "NONE when n is not a valid id or has no parent (the root and every free root).");
    for (int cap = 8; cap <= 32; cap++) {
      IncrAttrEval t = Forest.make(cap);
      for (int n : Forest.NEVER_VALID) {
        check.same("getParent(" + n + "), CAP " + cap, t.getParent(n), NONE);
      }
      for (int n = Forest.MADE; n < 40; n++) {
        check.same("getParent(" + n + "), CAP " + cap, t.getParent(n), NONE);
      }
      for (int n : new int[] {2, 5, 6, 7}) {
        check.same("getParent(" + n + "), without parent", t.getParent(n), NONE);
      }
      IncrAttrEval empty = new IncrAttrEval(cap);
      for (int n = -1; n <= 32; n++) {
        check.same("getParent(" + n + ") in a new object", empty.getParent(n), NONE);
      }
    }
    IncrAttrEval t = Forest.make(8);
    t.replace(0, 5);
    t.replace(5, 0);
    check.same("getParent of a node that had one", t.getParent(5), NONE);
  }

  private static void gettersChangeNothing() {
    check.about("Promise 8", "It changes nothing.");
    Forest.unchanged(check, "getRoot", 32, t -> t.getRoot());
    Forest.unchanged(check, "getRoot when full", 8, t -> t.getRoot());
    check.about("Promise 9", "It changes nothing.");
    Forest.unchanged(check, "nodeCount", 32, t -> t.nodeCount());
    Forest.unchanged(check, "nodeCount when full", 8, t -> t.nodeCount());
    check.about("Promise 10", "It changes nothing.");
    for (int n : Forest.manyIds()) {
      Forest.unchanged(check, "getKind(" + n + ")", 32, t -> t.getKind(n));
    }
    check.about("Promise 11", "It changes nothing.");
    for (int n : Forest.manyIds()) {
      Forest.unchanged(check, "getParent(" + n + ")", 32, t -> t.getParent(n));
    }
  }
}
