/** Promise 6: setRoot. */
public final class SetRootTest {
  private static final int NONE = IncrAttrEval.NONE;
  private static final Checker check = new Checker();

  public static void main(String[] args) {
    refusesWhatIsNoFreeRoot();
    oldRootBecomesFreeAndKeepsShape();
    attributesForgetEarlierPlaces();
    deepestTreeIsEvaluated();
    check.end();
  }

  /** Free roots 2 (over 0 and 1: 8 - 5) and 5 (over 3 and 4: let 1 = 6 in name 1). */
  private static IncrAttrEval twoTrees() {
    IncrAttrEval t = new IncrAttrEval(10);
    t.newNum(8);
    t.newNum(5);
    t.newOp(IncrAttrEval.SUB, 0, 1);
    t.newNum(6);
    t.newVar(1);
    t.newLet(1, 3, 4);
    return t;
  }

  private static void refusesWhatIsNoFreeRoot() {
    IncrAttrEval t = twoTrees();
    refuses(t, new int[] {0, 1, 3, 4});
    check.same("setRoot of a free root", t.setRoot(2), true);
    refuses(t, new int[] {0, 1, 2, 3, 4});
    check.same("setRoot of the other free root", t.setRoot(5), true);
    refuses(t, new int[] {0, 1, 3, 4, 5});
  }

  private static void refuses(IncrAttrEval t, int[] ids) {
    String before = Checker.picture(t);
    for (int id : ids) {
      check.same("setRoot of " + id, t.setRoot(id), false);
    }
    int[] invalid = {Integer.MIN_VALUE, -2, -1, 6, 7, 9, 10, 31, 32, 33, Integer.MAX_VALUE};
    for (int id : invalid) {
      check.same("setRoot of " + id, t.setRoot(id), false);
    }
    check.same("after refused setRoot", Checker.picture(t), before);
  }

  private static void oldRootBecomesFreeAndKeepsShape() {
    IncrAttrEval t = twoTrees();
    t.setRoot(2);
    String first = Checker.picture(t);
    check.same("the root", t.getRoot(), 2);
    check.same("its value", t.getVal(2), 3);
    check.same("the other tree is not attached", t.getSize(4), -1);
    check.same("setRoot of the other", t.setRoot(5), true);
    check.same("the new root", t.getRoot(), 5);
    check.same("its value", t.getVal(5), 6);
    check.same("nodeCount", t.nodeCount(), 6);
    for (int n = 0; n < 3; n++) {
      check.same("depth of detached " + n, t.getDepth(n), -1);
      check.same("errs of detached " + n, t.getErrs(n), -1);
      check.same("size of detached " + n, t.getSize(n), -1);
      check.same("value of detached " + n, t.getVal(n), 0);
    }
    check.same("a detached node keeps its parent", t.getParent(0), 2);
    check.same("a detached node keeps its parent", t.getParent(1), 2);
    check.same("the old root has no parent", t.getParent(2), NONE);
    check.same("the old root is a free root", t.setRoot(2), true);
    check.same("back at the first root", Checker.picture(t), first);
    check.same("the free old root can be used", t.replace(0, 5), true);
    check.same("6 - 5", t.getVal(2), 1);
  }

  private static void attributesForgetEarlierPlaces() {
    IncrAttrEval t = new IncrAttrEval(8);
    int init = t.newNum(9);
    int v = t.newVar(3);
    int let = t.newLet(3, init, v);
    int num = t.newNum(1);
    t.setRoot(let);
    check.same("bound under the let", t.getVal(v), 9);
    t.replace(v, num);
    check.same("detached", t.getVal(v), 0);
    check.same("detached", t.isBound(v, 3), false);
    check.same("detached", t.getEnv(v, 3), 0);
    check.same("setRoot of the var", t.setRoot(v), true);
    check.same("the root has depth 0", t.getDepth(v), 0);
    check.same("nothing is bound at the root", t.isBound(v, 3), false);
    check.same("every value is 0 at the root", t.getEnv(v, 3), 0);
    check.same("the var's value", t.getVal(v), 0);
    check.same("the var is an error", t.getErrs(v), 1);
  }

  /** The longest chains that 31 of 32 nodes can make, in either slot. */
  private static void deepestTreeIsEvaluated() {
    for (int side = 0; side < 2; side++) {
      IncrAttrEval t = new IncrAttrEval(32);
      int top = t.newNum(1);
      for (int i = 0; i < 15; i++) {
        int leaf = t.newNum(1);
        top = side == 0 ? t.newOp(IncrAttrEval.ADD, top, leaf) : t.newOp(IncrAttrEval.ADD, leaf, top);
      }
      check.same("setRoot of the chain", t.setRoot(top), true);
      check.same("value of the chain", t.getVal(top), 16);
      check.same("size of the chain", t.getSize(top), 31);
      check.same("depth of its end", t.getDepth(0), 15);
      check.same("errs of the chain", t.getErrs(top), 0);
    }
  }
}
