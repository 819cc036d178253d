/** Promise 6, sentence by sentence: setRoot at its edges. */
public final class BoundarySetRootTest {
  private static final String PLACE = "Promise 6";
  private static final int NONE = IncrAttrEval.NONE;
  private static final int ADD = IncrAttrEval.ADD;
  private static final Checker check = new Checker();

  public static void main(String[] args) {
    notValidIsRefused();
    withParentIsRefused();
    rootItselfIsRefused();
    oldRootBecomesFree();
    oldSubtreeIsKept();
    firstRootHasNoOldOne();
    idBecomesTheRoot();
    answerIsTrue();
    newTreeIsAttachedAndOldIsNot();
    noNodeIsMade();
    onlyTheRootChanges();
    earlierPlacesDoNotMatter();
    check.end();
  }

  private static void refuses(String why, int id) {
    for (int capacity : new int[] {8, 9, 32}) {
      Forest.refused(check, "setRoot(" + id + ") (" + why + ")",
        () -> Forest.make(capacity), t -> t.setRoot(id) ? 1 : 0, 0);
    }
  }

  private static void notValidIsRefused() {
    check.about(PLACE, "Condition 1: if id is not a free root, the answer is false and nothing changes. "
      + "This covers id that is not a valid id");
    for (int id : Forest.notValid()) {
      refuses("not valid", id);
      Forest.refused(check, "setRoot(" + id + ") in a new object",
        () -> new IncrAttrEval(8), t -> t.setRoot(id) ? 1 : 0, 0);
    }
    for (int cap = 8; cap <= 32; cap++) {
      IncrAttrEval t = Forest.nums(cap, cap);
      check.same("setRoot of the id after the last, CAP " + cap, t.setRoot(cap), false);
      check.same("setRoot of NONE, CAP " + cap, t.setRoot(NONE), false);
      check.same("root afterwards, CAP " + cap, t.getRoot(), NONE);
      check.same("setRoot of the last id, CAP " + cap, t.setRoot(cap - 1), true);
    }
    IncrAttrEval later = Forest.nums(8, 3);
    check.same("setRoot of an id not yet made", later.setRoot(3), false);
    later.newNum(5);
    check.same("the same id when made", later.setRoot(3), true);
  }

  private static void withParentIsRefused() {
    check.about(PLACE, "Condition 1: [..] This covers [..] id that has a parent");
    for (int id : Forest.HAVE_PARENT) {
      refuses("has a parent", id);
    }
    IncrAttrEval t = Forest.make(8);
    t.setRoot(6);
    check.same("setRoot of a node under the old root", t.setRoot(1), false);
    check.same("setRoot of a node in a free subtree", t.setRoot(4), false);
    check.same("root afterwards", t.getRoot(), 6);
  }

  private static void rootItselfIsRefused() {
    check.about(PLACE, "Condition 1: [..] This covers [..] and id that is already the root.");
    refuses("is the root", Forest.ROOT);
    IncrAttrEval t = Forest.nums(8, 8);
    for (int id = 0; id < 8; id++) {
      check.same("setRoot(" + id + ")", t.setRoot(id), true);
      check.same("setRoot(" + id + ") again", t.setRoot(id), false);
      check.same("root after both", t.getRoot(), id);
      check.same("value of the root after both", t.getVal(id), 100 + id);
    }
    IncrAttrEval u = Forest.make(8);
    u.replace(2, 5);
    check.same("setRoot of a root that replace put there", u.setRoot(5), false);
  }

  private static void oldRootBecomesFree() {
    check.about(PLACE, "Otherwise the old root, if not NONE, becomes a free root");
    for (int id : Forest.FREE_ROOTS) {
      IncrAttrEval t = Forest.make(32);
      t.setRoot(id);
      check.same("parent of the old root", t.getParent(2), NONE);
      check.same("setRoot of the old root", t.setRoot(2), true);
      t.setRoot(id);
      check.same("the old root put in the new root's place", t.replace(id, 2), true);
      t.setRoot(id);
      check.same("the old root in newOp", t.newOp(ADD, 2, t.newNum(1)), 9);
    }
    IncrAttrEval t = Forest.make(9);
    t.setRoot(6);
    check.same("the old root in newLet", t.newLet(0, 5, 2), 8);
  }

  private static void oldSubtreeIsKept() {
    check.about(PLACE, "its subtree kept unchanged (same kinds, payloads, slots and parents below it)");
    for (int id : Forest.FREE_ROOTS) {
      IncrAttrEval t = Forest.make(8);
      String before = Checker.picture(t);
      t.setRoot(id);
      check.same("parent in slot 0 of the old root", t.getParent(0), 2);
      check.same("parent in slot 1 of the old root", t.getParent(1), 2);
      check.same("kind of the old root", t.getKind(2), IncrAttrEval.LET);
      check.same("kind in its slot 0", t.getKind(0), IncrAttrEval.NUM);
      check.same("kind in its slot 1", t.getKind(1), IncrAttrEval.VAR);
      t.setRoot(2);
      check.same("back at the old root, every answer", Checker.picture(t), before);
      t.setRoot(id);
      t.setRoot(2);
      Forest.likeTwin(check, "there and back twice", t, Forest.make(8));
    }
  }

  private static void firstRootHasNoOldOne() {
    check.about(PLACE, "Otherwise the old root, if not NONE, becomes a free root [when it is NONE]");
    for (int cap = 8; cap <= 32; cap++) {
      for (int id = 0; id < cap; id++) {
        IncrAttrEval t = Forest.nums(cap, cap);
        check.same("the first setRoot, of " + id + ", CAP " + cap, t.setRoot(id), true);
        check.same("the root", t.getRoot(), id);
        check.same("its value", t.getVal(id), 100 + id);
        check.same("its depth", t.getDepth(id), 0);
        check.same("NONE is no free root", t.setRoot(NONE), false);
      }
    }
  }

  private static void idBecomesTheRoot() {
    check.about(PLACE, "id becomes the root.");
    IncrAttrEval t = Forest.make(8);
    for (int round = 0; round < 3; round++) {
      for (int id : new int[] {5, 6, 7, 2}) {
        t.setRoot(id);
        check.same("getRoot after setRoot(" + id + ")", t.getRoot(), id);
        check.same("depth of " + id + " as root", t.getDepth(id), 0);
      }
    }
  }

  private static void answerIsTrue() {
    check.about(PLACE, "The answer is true.");
    for (int capacity : new int[] {8, 9, 32}) {
      IncrAttrEval t = Forest.make(capacity);
      for (int id : new int[] {5, 6, 7, 2}) {
        check.same("setRoot(" + id + ")", t.setRoot(id), true);
      }
    }
  }

  private static void newTreeIsAttachedAndOldIsNot() {
    check.about(PLACE, "Afterwards all attributes of the new tree hold as the equations define them: the nodes under id "
      + "are attached, the nodes under the old root are not.");
    IncrAttrEval t = Forest.make(8);
    t.setRoot(5);
    int[] val = {0, 0, 0, 10, 0, 10, 0, 0};
    int[] errs = {-1, -1, -1, 0, 1, 1, -1, -1};
    int[] size = {-1, -1, -1, 1, 1, 3, -1, -1};
    int[] depth = {-1, -1, -1, 1, 1, 0, -1, -1};
    for (int n = 0; n < val.length; n++) {
      check.same("getVal(" + n + ")", t.getVal(n), val[n]);
      check.same("getErrs(" + n + ")", t.getErrs(n), errs[n]);
      check.same("getSize(" + n + ")", t.getSize(n), size[n]);
      check.same("getDepth(" + n + ")", t.getDepth(n), depth[n]);
      check.same("getEnv(" + n + ", 0)", t.getEnv(n, 0), 0);
      check.same("isBound(" + n + ", 0)", t.isBound(n, 0), false);
    }
    greatestTrees();
  }

  /** Chains and full trees of as many nodes as fit, which is one less than an even CAP. */
  private static void greatestTrees() {
    for (int cap = 8; cap <= 32; cap++) {
      for (int side = 0; side < 2; side++) {
        IncrAttrEval t = new IncrAttrEval(cap);
        int top = t.newVar(0);
        int inner = (cap - 1) / 2;
        for (int i = 0; i < inner; i++) {
          int leaf = t.newNum(1);
          top = side == 0 ? t.newOp(ADD, top, leaf) : t.newLet(0, leaf, top);
        }
        check.same("setRoot of a chain, CAP " + cap, t.setRoot(top), true);
        check.same("its value", t.getVal(top), side == 0 ? inner : 1);
        check.same("its errs", t.getErrs(top), side == 0 ? 1 : 0);
        check.same("its size", t.getSize(top), 2 * inner + 1);
        check.same("depth of its end", t.getDepth(0), inner);
      }
    }
    fullTree();
  }

  private static void fullTree() {
    IncrAttrEval t = new IncrAttrEval(32);
    for (int n = 0; n < 16; n++) {
      t.newNum(1 << n);
    }
    for (int n = 0; n < 30; n += 2) {
      t.newOp(ADD, n, n + 1);
    }
    check.same("setRoot of the full tree", t.setRoot(30), true);
    check.same("its value", t.getVal(30), 65535);
    check.same("its size", t.getSize(30), 31);
    for (int n = 0; n < 31; n++) {
      check.same("depth of " + n, t.getDepth(n), n < 16 ? 4 : n < 24 ? 3 : n < 28 ? 2 : n < 30 ? 1 : 0);
    }
  }

  private static void noNodeIsMade() {
    check.about(PLACE, "No node is made, nodeCount() is unchanged, and no node's kind, payload or slot contents change.");
    for (int id : Forest.FREE_ROOTS) {
      for (int capacity : new int[] {8, 9, 32}) {
        IncrAttrEval t = Forest.make(capacity);
        t.setRoot(id);
        check.same("nodeCount after setRoot(" + id + ")", t.nodeCount(), Forest.MADE);
        check.same("kind of the id after the last", t.getKind(Forest.MADE), 0);
        check.same("the next id", t.newNum(1), capacity == 8 ? NONE : Forest.MADE);
      }
    }
    IncrAttrEval t = Forest.make(32);
    for (int id : new int[] {5, 6, 7, 2}) {
      t.setRoot(id);
    }
    Forest.likeTwin(check, "all free roots in turn", t, Forest.make(32));
  }

  private static void onlyTheRootChanges() {
    check.about(PLACE, "Only the root changes.");
    int[] kind = {1, 2, 6, 1, 2, 4, 1, 2};
    int[] parent = {2, 2, NONE, 5, 5, NONE, NONE, NONE};
    IncrAttrEval t = Forest.make(8);
    for (int id : new int[] {5, 6, 7, 2}) {
      t.setRoot(id);
      for (int n = 0; n < kind.length; n++) {
        check.same("kind of " + n + " with root " + id, t.getKind(n), kind[n]);
        check.same("parent of " + n + " with root " + id, t.getParent(n), parent[n]);
      }
    }
  }

  private static void earlierPlacesDoNotMatter() {
    check.about(PLACE, "Attributes of the now attached nodes depend only on the new tree, never on any earlier placement.");
    for (int x = 0; x < IncrAttrEval.NAMES; x++) {
      IncrAttrEval t = new IncrAttrEval(32);
      int v = t.newVar(x);
      int w = t.newVar(x);
      int sum = t.newOp(ADD, v, w);
      int top = Forest.bindAllNames(t, sum);
      int num = t.newNum(0);
      t.setRoot(top);
      check.same("the sum under the lets", t.getVal(sum), 2 * (1000 + 7 * x));
      t.replace(sum, num);
      t.setRoot(sum);
      for (int n : new int[] {v, w, sum}) {
        check.same("value of " + n + " after its time under the lets", t.getVal(n), 0);
        check.same("errs of " + n, t.getErrs(n), n == sum ? 2 : 1);
        check.same("depth of " + n, t.getDepth(n), n == sum ? 0 : 1);
        for (int y = 0; y < IncrAttrEval.NAMES; y++) {
          check.same("isBound(" + n + ", " + y + ")", t.isBound(n, y), false);
          check.same("getEnv(" + n + ", " + y + ")", t.getEnv(n, y), 0);
        }
      }
    }
  }
}
