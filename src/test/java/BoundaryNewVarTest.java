/** Promise 3, sentence by sentence: newVar at its edges. */
public final class BoundaryNewVarTest {
  private static final String PLACE = "Promise 3";
  private static final int NONE = IncrAttrEval.NONE;
  private static final Checker check = new Checker();

  public static void main(String[] args) {
    notANameIsRefused();
    fullObjectRefuses();
    everyNameIsTaken();
    nodeIsAFreeRoot();
    answerIsTheOldCount();
    refusedCallChangesNothing();
    successAddsTheNodeOnly();
    check.end();
  }

  private static void notANameIsRefused() {
    check.about(PLACE, "Condition 1: if x < 0 or x >= NAMES, the answer is NONE.");
    for (int x : Forest.NOT_NAMES) {
      check.same("newVar(" + x + ") in a new object", new IncrAttrEval(8).newVar(x), NONE);
      check.same("newVar(" + x + ") with one place left", Forest.make(9).newVar(x), NONE);
    }
  }

  private static void fullObjectRefuses() {
    check.about(PLACE, "Condition 2: if nodeCount() == CAP, the answer is NONE.");
    for (int cap = 8; cap <= 32; cap++) {
      for (int x = 0; x < IncrAttrEval.NAMES; x++) {
        check.same("newVar(" + x + ") when full, CAP " + cap, Forest.nums(cap, cap).newVar(x), NONE);
      }
    }
  }

  private static void everyNameIsTaken() {
    check.about(PLACE, "Otherwise a VAR node with name x and parent NONE is made.");
    for (int x = 0; x < IncrAttrEval.NAMES; x++) {
      IncrAttrEval t = new IncrAttrEval(32);
      int hole = t.newNum(0);
      int top = Forest.bindAllNames(t, hole);
      t.setRoot(top);
      int v = t.newVar(x);
      check.same("kind of newVar(" + x + ")", t.getKind(v), IncrAttrEval.VAR);
      check.same("parent of newVar(" + x + ")", t.getParent(v), NONE);
      check.same("replace by newVar(" + x + ")", t.replace(hole, v), true);
      check.same("value of newVar(" + x + ") where all names are bound", t.getVal(v), 1000 + 7 * x);
      check.same("errs of newVar(" + x + ") where all names are bound", t.getErrs(v), 0);
    }
  }

  private static void nodeIsAFreeRoot() {
    check.about(PLACE, "It is a free root.");
    for (int x = 0; x < IncrAttrEval.NAMES; x++) {
      IncrAttrEval t = Forest.make(9);
      int v = t.newVar(x);
      check.same("depth of newVar(" + x + ")", t.getDepth(v), -1);
      check.same("replace of an attached node by newVar(" + x + ")", t.replace(0, v), true);
      IncrAttrEval u = Forest.make(10);
      check.same("newOp over newVar(" + x + ")", u.newOp(IncrAttrEval.MUL, u.newVar(x), 6), 9);
      IncrAttrEval w = Forest.make(9);
      check.same("setRoot of newVar(" + x + ")", w.setRoot(w.newVar(x)), true);
    }
  }

  private static void answerIsTheOldCount() {
    check.about(PLACE, "The answer is its id (the old nodeCount()); nodeCount() grows by one.");
    for (int cap = 8; cap <= 32; cap++) {
      IncrAttrEval t = new IncrAttrEval(cap);
      for (int n = 0; n < cap; n++) {
        check.same("CAP " + cap + ", newVar number " + n, t.newVar(n % 8), n);
        check.same("CAP " + cap + ", nodeCount after it", t.nodeCount(), n + 1);
      }
    }
  }

  private static void refusedCallChangesNothing() {
    check.about(PLACE, "A refused call changes nothing.");
    for (int x : Forest.NOT_NAMES) {
      Forest.refused(check, "newVar(" + x + ") in a new object", () -> new IncrAttrEval(32), t -> t.newVar(x), NONE);
      Forest.refused(check, "newVar(" + x + ") with room", () -> Forest.make(32), t -> t.newVar(x), NONE);
      Forest.refused(check, "newVar(" + x + ") when full", () -> Forest.make(8), t -> t.newVar(x), NONE);
    }
    for (int x = 0; x < IncrAttrEval.NAMES; x++) {
      int name = x;
      Forest.refused(check, "newVar(" + x + ") when full", () -> Forest.make(8), t -> t.newVar(name), NONE);
      Forest.refused(check, "newVar(" + x + ") in 32 NUMs", () -> Forest.nums(32, 32), t -> t.newVar(name), NONE);
    }
  }

  private static void successAddsTheNodeOnly() {
    check.about(PLACE, "A successful call changes nothing but adding the new node: the root, all existing nodes "
      + "and all attributes of attached nodes stay as they were.");
    IncrAttrEval empty = new IncrAttrEval(8);
    empty.newVar(0);
    check.same("root after the first newVar", empty.getRoot(), NONE);
    for (int x = 0; x < IncrAttrEval.NAMES; x++) {
      IncrAttrEval t = Forest.make(9);
      String before = Checker.pictureWithout(t, 8);
      t.newVar(x);
      check.same("the other nodes after newVar(" + x + ")", Checker.pictureWithout(t, 8), before);
      t.replace(1, 5);
      check.same("10 - name 1 in the body", t.getVal(2), 10);
      t.replace(5, 7);
      check.same("name 0 in the body", t.getVal(2), 3);
      t.replace(7, 6);
      check.same("20 in the body", t.getVal(2), 20);
    }
  }
}
