/** Promise 7: replace. */
public final class ReplaceTest {
  private static final int NONE = IncrAttrEval.NONE;
  private static final Checker check = new Checker();

  public static void main(String[] args) {
    refusesWithoutRoot();
    refusesWrongIds();
    replacesInEitherSlot();
    replacesTheRoot();
    newInitReachesTheBody();
    shadowedInitStaysHidden();
    displacedSubtreeIsUsedAgain();
    undoingGivesTheSamePicture();
    check.end();
  }

  /** Root 6: let 0 = 3 in (name 0 + (2 - name 0)); nodes 1 and 3 are the vars, 4 the SUB, 5 the ADD. */
  private static IncrAttrEval tree() {
    IncrAttrEval t = new IncrAttrEval(20);
    t.newNum(3);
    t.newVar(0);
    t.newNum(2);
    t.newVar(0);
    t.newOp(IncrAttrEval.SUB, 2, 3);
    t.newOp(IncrAttrEval.ADD, 1, 4);
    t.newLet(0, 0, 5);
    t.setRoot(6);
    return t;
  }

  private static void refusesWithoutRoot() {
    IncrAttrEval t = new IncrAttrEval(8);
    t.newNum(1);
    t.newNum(2);
    t.newOp(IncrAttrEval.ADD, 0, 1);
    t.newNum(3);
    String before = Checker.picture(t);
    for (int old = -2; old < 9; old++) {
      for (int nw = -2; nw < 9; nw++) {
        check.same("replace(" + old + ", " + nw + ") without root", t.replace(old, nw), false);
      }
    }
    check.same("after refused replace", Checker.picture(t), before);
  }

  private static void refusesWrongIds() {
    IncrAttrEval t = tree();
    t.newNum(7);
    t.newNum(8);
    t.newOp(IncrAttrEval.MUL, 7, 8);
    t.newNum(9);
    String before = Checker.picture(t);
    int[] notAttached = {Integer.MIN_VALUE, -1, 7, 8, 9, 10, 11, 19, 20, 31, 32, Integer.MAX_VALUE};
    for (int old : notAttached) {
      check.same("replace(" + old + ", 10)", t.replace(old, 10), false);
      check.same("replace(" + old + ", 9)", t.replace(old, 9), false);
    }
    int[] notFree = {Integer.MIN_VALUE, -1, 0, 1, 2, 3, 4, 5, 6, 7, 8, 11, 19, 20, 32, Integer.MAX_VALUE};
    for (int nw : notFree) {
      for (int old = 0; old <= 6; old++) {
        check.same("replace(" + old + ", " + nw + ")", t.replace(old, nw), false);
      }
    }
    check.same("after refused replace", Checker.picture(t), before);
    check.same("replace(4, 9)", t.replace(4, 9), true);
  }

  private static void replacesInEitherSlot() {
    IncrAttrEval t = tree();
    int ten = t.newNum(10);
    check.same("replace in slot 0", t.replace(2, ten), true);
    check.same("10 - 3", t.getVal(4), 7);
    check.same("the root's value", t.getVal(6), 10);
    check.same("parent of the new", t.getParent(ten), 4);
    check.same("parent of the old", t.getParent(2), NONE);
    check.same("parent of the sibling", t.getParent(3), 4);
    check.same("depth of the new", t.getDepth(ten), 3);
    check.same("depth of the old", t.getDepth(2), -1);
    check.same("replace in slot 1", t.replace(3, 2), true);
    check.same("10 - 2", t.getVal(4), 8);
    check.same("the root's value", t.getVal(6), 11);
    check.same("parent of the new", t.getParent(2), 4);
    check.same("parent of the old", t.getParent(3), NONE);
    check.same("root", t.getRoot(), 6);
    check.same("nodeCount", t.nodeCount(), 8);
    check.same("the displaced node is a free root", t.setRoot(3), true);
    check.same("and unbound there", t.getErrs(3), 1);
  }

  private static void replacesTheRoot() {
    IncrAttrEval t = tree();
    int five = t.newNum(5);
    IncrAttrEval u = tree();
    u.newNum(5);
    check.same("replace of the root", t.replace(6, five), true);
    check.same("setRoot", u.setRoot(five), true);
    check.same("replace of the root is setRoot", Checker.picture(t), Checker.picture(u));
    check.same("the new root", t.getRoot(), five);
    check.same("its parent", t.getParent(five), NONE);
    check.same("back again", t.replace(five, 6), true);
    check.same("the value", t.getVal(6), 2);
    check.same("the root by itself", t.replace(6, 6), false);
  }

  private static void newInitReachesTheBody() {
    IncrAttrEval t = tree();
    int c = t.newNum(-4);
    check.same("replace of the init", t.replace(0, c), true);
    check.same("env of a var", t.getEnv(1, 0), -4);
    check.same("env of the deeper var", t.getEnv(3, 0), -4);
    check.same("2 - -4", t.getVal(4), 6);
    check.same("the root's value", t.getVal(6), 2);
    int unbound = t.newVar(5);
    check.same("an unbound init", t.replace(c, unbound), true);
    check.same("counts one error", t.getErrs(6), 1);
    check.same("and still binds the name", t.isBound(3, 0), true);
    check.same("to 0", t.getVal(3), 0);
    check.same("without an error in the body", t.getErrs(5), 0);
  }

  private static void shadowedInitStaysHidden() {
    IncrAttrEval t = new IncrAttrEval(16);
    int outer = t.newNum(1);
    int innerInit = t.newVar(0);
    int use = t.newVar(0);
    int inner = t.newLet(0, innerInit, use);
    int top = t.newLet(0, outer, inner);
    t.setRoot(top);
    check.same("the inner init sees the outer", t.getVal(use), 1);
    int two = t.newNum(2);
    t.replace(outer, two);
    check.same("through both lets", t.getVal(use), 2);
    int ten = t.newNum(10);
    t.replace(innerInit, ten);
    check.same("the inner shadows the outer", t.getVal(use), 10);
    t.replace(two, outer);
    check.same("whatever the outer is", t.getVal(top), 10);
    check.same("the outer shows at the inner's init", t.getEnv(ten, 0), 1);
    check.same("an attached var is no free root", t.replace(inner, use), false);
    check.same("and keeps its value", t.getVal(use), 10);
    int plain = t.newNum(0);
    t.replace(use, plain);
    t.replace(inner, use);
    check.same("without the inner let the outer shows", t.getVal(use), 1);
  }

  private static void displacedSubtreeIsUsedAgain() {
    IncrAttrEval t = tree();
    int zero = t.newNum(0);
    t.replace(4, zero);
    check.same("the displaced subtree keeps its shape", t.getParent(2), 4);
    check.same("the displaced subtree keeps its shape", t.getParent(3), 4);
    check.same("old inside a free subtree", t.replace(3, 4), false);
    int twice = t.newNum(2);
    int mul = t.newOp(IncrAttrEval.MUL, 4, twice);
    check.same("used by newOp", t.getParent(4), mul);
    check.same("put in as the init", t.replace(0, mul), true);
    check.same("the var is unbound in the init", t.getErrs(mul), 1);
    check.same("(2 - 0) * 2", t.getVal(mul), 4);
    check.same("the body sees it", t.getVal(1), 4);
    check.same("the root's value", t.getVal(6), 4);
    check.same("the root's errs", t.getErrs(6), 1);
    check.same("the root's size", t.getSize(6), 9);
  }

  private static void undoingGivesTheSamePicture() {
    IncrAttrEval t = tree();
    t.newVar(6);
    t.newNum(77);
    t.newLet(0, 8, 7);
    String before = Checker.picture(t);
    for (int old = 0; old <= 6; old++) {
      check.same("replace(" + old + ", 9)", t.replace(old, 9), true);
      check.same("replace(9, " + old + ")", t.replace(9, old), true);
      check.same("after replace and back at " + old, Checker.picture(t), before);
    }
  }
}
