/** Promises 2 to 5: newNum, newVar, newOp and newLet. */
public final class CreationTest {
  private static final int NONE = IncrAttrEval.NONE;
  private static final int[] FAR = {Integer.MIN_VALUE, -2, -1, 32, 33, Integer.MAX_VALUE};
  private static final Checker check = new Checker();

  public static void main(String[] args) {
    newNumTakesEveryInt();
    newVarTakesNamesOnly();
    newOpTakesThreeKinds();
    newLetTakesNamesOnly();
    newOpRefusesWhatIsNoFreeRoot();
    newLetRefusesWhatIsNoFreeRoot();
    joiningChangesParentsOnly();
    slotOrderIsKept();
    letBindsInBodyOnly();
    creationLeavesTreeAlone();
    fullObjectRefuses();
    check.end();
  }

  private static void newNumTakesEveryInt() {
    int[] constants = {0, 1, -1, 7, Integer.MIN_VALUE, Integer.MAX_VALUE, 123456789};
    IncrAttrEval t = new IncrAttrEval(8);
    for (int i = 0; i < constants.length; i++) {
      check.same("newNum " + constants[i], t.newNum(constants[i]), i);
      check.same("nodeCount after newNum", t.nodeCount(), i + 1);
      check.same("kind of a NUM", t.getKind(i), IncrAttrEval.NUM);
      check.same("parent of a NUM", t.getParent(i), NONE);
      check.same("size of a detached NUM", t.getSize(i), -1);
    }
    check.same("root after newNum", t.getRoot(), NONE);
    for (int i = 0; i < constants.length; i++) {
      check.same("a NUM is a free root", t.setRoot(i), true);
      check.same("value of a NUM", t.getVal(i), constants[i]);
    }
  }

  private static void newVarTakesNamesOnly() {
    IncrAttrEval t = new IncrAttrEval(16);
    String before = Checker.picture(t);
    int[] bad = {Integer.MIN_VALUE, -9, -8, -1, 8, 9, 256, Integer.MAX_VALUE};
    for (int x : bad) {
      check.same("newVar " + x, t.newVar(x), NONE);
    }
    check.same("after refused newVar", Checker.picture(t), before);
    for (int x = 0; x < IncrAttrEval.NAMES; x++) {
      check.same("newVar " + x, t.newVar(x), x);
      check.same("nodeCount after newVar", t.nodeCount(), x + 1);
      check.same("kind of a VAR", t.getKind(x), IncrAttrEval.VAR);
      check.same("parent of a VAR", t.getParent(x), NONE);
      check.same("errs of a detached VAR", t.getErrs(x), -1);
    }
    check.same("root after newVar", t.getRoot(), NONE);
    check.same("a VAR is a free root", t.setRoot(7), true);
    check.same("a lone VAR is an error", t.getErrs(7), 1);
    eachNameIsItsOwn();
  }

  private static void eachNameIsItsOwn() {
    for (int bound = 0; bound < IncrAttrEval.NAMES; bound++) {
      for (int used = 0; used < IncrAttrEval.NAMES; used++) {
        IncrAttrEval t = new IncrAttrEval(8);
        t.newNum(50);
        t.newVar(used);
        t.newLet(bound, 0, 1);
        t.setRoot(2);
        String what = "let " + bound + " with var " + used;
        check.same(what + ", value", t.getVal(2), bound == used ? 50 : 0);
        check.same(what + ", errs", t.getErrs(2), bound == used ? 0 : 1);
      }
    }
  }

  private static void newOpTakesThreeKinds() {
    int[] bad = {Integer.MIN_VALUE, -1, 0, IncrAttrEval.NUM, IncrAttrEval.VAR, IncrAttrEval.LET, 7, 35,
      Integer.MAX_VALUE};
    for (int kind : bad) {
      IncrAttrEval t = twoNums();
      String before = Checker.picture(t);
      check.same("newOp of kind " + kind, t.newOp(kind, 0, 1), NONE);
      check.same("after refused newOp", Checker.picture(t), before);
    }
    for (int kind = IncrAttrEval.ADD; kind <= IncrAttrEval.MUL; kind++) {
      IncrAttrEval t = twoNums();
      check.same("newOp of kind " + kind, t.newOp(kind, 0, 1), 2);
      check.same("its kind", t.getKind(2), kind);
      looksJoined(t);
    }
  }

  private static void newLetTakesNamesOnly() {
    int[] bad = {Integer.MIN_VALUE, -8, -1, 8, 16, Integer.MAX_VALUE};
    for (int x : bad) {
      IncrAttrEval t = twoNums();
      String before = Checker.picture(t);
      check.same("newLet of name " + x, t.newLet(x, 0, 1), NONE);
      check.same("after refused newLet", Checker.picture(t), before);
    }
    for (int x = 0; x < IncrAttrEval.NAMES; x++) {
      IncrAttrEval t = twoNums();
      check.same("newLet of name " + x, t.newLet(x, 0, 1), 2);
      check.same("its kind", t.getKind(2), IncrAttrEval.LET);
      looksJoined(t);
    }
  }

  private static IncrAttrEval twoNums() {
    IncrAttrEval t = new IncrAttrEval(8);
    t.newNum(10);
    t.newNum(3);
    return t;
  }

  /** Nodes 0 and 1 stand under the free root 2. */
  private static void looksJoined(IncrAttrEval t) {
    check.same("nodeCount after joining", t.nodeCount(), 3);
    check.same("root after joining", t.getRoot(), NONE);
    check.same("parent of slot 0", t.getParent(0), 2);
    check.same("parent of slot 1", t.getParent(1), 2);
    check.same("parent of the new node", t.getParent(2), NONE);
    check.same("a child is no free root", t.setRoot(0), false);
    check.same("a child is no free root", t.setRoot(1), false);
    check.same("the new node is a free root", t.setRoot(2), true);
  }

  /** Root 2 over 0 and 1; free root 5 over 3 and 4; free root 6. */
  private static IncrAttrEval mixed() {
    IncrAttrEval t = new IncrAttrEval(16);
    t.newNum(1);
    t.newNum(2);
    t.newOp(IncrAttrEval.ADD, 0, 1);
    t.newNum(3);
    t.newVar(0);
    t.newLet(0, 3, 4);
    t.newNum(4);
    t.setRoot(2);
    return t;
  }

  private static void newOpRefusesWhatIsNoFreeRoot() {
    IncrAttrEval t = mixed();
    String before = Checker.picture(t);
    for (int kind = IncrAttrEval.ADD; kind <= IncrAttrEval.MUL; kind++) {
      for (int n = -1; n <= 8; n++) {
        if (n == 5 || n == 6) {
          check.same("newOp of one node twice", t.newOp(kind, n, n), NONE);
          continue;
        }
        check.same("newOp with slot 0 = " + n, t.newOp(kind, n, 6), NONE);
        check.same("newOp with slot 1 = " + n, t.newOp(kind, 6, n), NONE);
      }
      for (int n : FAR) {
        check.same("newOp with slot 0 = " + n, t.newOp(kind, n, 6), NONE);
        check.same("newOp with slot 1 = " + n, t.newOp(kind, 6, n), NONE);
      }
    }
    check.same("after refused newOp", Checker.picture(t), before);
    check.same("newOp of two free roots", t.newOp(IncrAttrEval.SUB, 6, 5), 7);
  }

  private static void newLetRefusesWhatIsNoFreeRoot() {
    IncrAttrEval t = mixed();
    String before = Checker.picture(t);
    for (int n = -1; n <= 8; n++) {
      if (n == 5 || n == 6) {
        check.same("newLet of one node twice", t.newLet(0, n, n), NONE);
        continue;
      }
      check.same("newLet with slot 0 = " + n, t.newLet(0, n, 6), NONE);
      check.same("newLet with slot 1 = " + n, t.newLet(7, 6, n), NONE);
    }
    for (int n : FAR) {
      check.same("newLet with slot 0 = " + n, t.newLet(0, n, 6), NONE);
      check.same("newLet with slot 1 = " + n, t.newLet(7, 6, n), NONE);
    }
    check.same("after refused newLet", Checker.picture(t), before);
    check.same("newLet of two free roots", t.newLet(7, 6, 5), 7);
  }

  private static void joiningChangesParentsOnly() {
    IncrAttrEval t = mixed();
    check.same("newOp of 5 and 6", t.newOp(IncrAttrEval.MUL, 5, 6), 7);
    int[] parent = {2, 2, NONE, 5, 5, 7, 7, NONE};
    for (int n = 0; n < parent.length; n++) {
      check.same("parent of " + n + " after joining", t.getParent(n), parent[n]);
    }
    check.same("root after joining", t.getRoot(), 2);
    check.same("the joined node is a free root", t.setRoot(7), true);
    check.same("the joined subtrees keep their shape", t.getVal(7), 12);
    check.same("the joined subtrees keep their shape", t.getSize(7), 5);
  }

  private static void slotOrderIsKept() {
    IncrAttrEval t = twoNums();
    t.newOp(IncrAttrEval.SUB, 1, 0);
    t.setRoot(2);
    check.same("3 - 10", t.getVal(2), -7);
    IncrAttrEval u = twoNums();
    u.newLet(4, 1, 0);
    u.setRoot(2);
    check.same("let 4 = 3 in 10", u.getVal(2), 10);
  }

  private static void letBindsInBodyOnly() {
    IncrAttrEval t = new IncrAttrEval(8);
    t.newVar(2);
    t.newVar(2);
    t.newLet(2, 0, 1);
    t.setRoot(2);
    check.same("the name is not bound in the init", t.isBound(0, 2), false);
    check.same("the name is bound in the body", t.isBound(1, 2), true);
    check.same("the name is not bound at the let", t.isBound(2, 2), false);
    check.same("one error, in the init", t.getErrs(2), 1);
  }

  private static void creationLeavesTreeAlone() {
    IncrAttrEval t = mixed();
    String[] before = new String[3];
    for (int n = 0; n < 3; n++) {
      before[n] = Checker.attributes(t, n);
    }
    t.newNum(99);
    t.newVar(3);
    t.newOp(IncrAttrEval.ADD, 5, 6);
    t.newLet(1, 7, 8);
    check.same("root after creations", t.getRoot(), 2);
    check.same("count after creations", t.nodeCount(), 11);
    for (int n = 0; n < 3; n++) {
      check.same("attributes of " + n + " after creations", Checker.attributes(t, n), before[n]);
    }
    for (int n = 3; n < 11; n++) {
      check.same("a created node " + n + " is not attached", t.getDepth(n), -1);
    }
  }

  private static void fullObjectRefuses() {
    for (int cap = IncrAttrEval.MIN_CAP; cap <= IncrAttrEval.MAX_CAP; cap++) {
      IncrAttrEval t = new IncrAttrEval(cap);
      for (int n = 0; n < cap; n++) {
        t.newNum(n);
      }
      t.setRoot(cap - 1);
      String before = Checker.picture(t);
      check.same("full: newNum", t.newNum(1), NONE);
      check.same("full: newVar", t.newVar(1), NONE);
      check.same("full: newVar of no name", t.newVar(8), NONE);
      check.same("full: newOp", t.newOp(IncrAttrEval.ADD, 0, 1), NONE);
      check.same("full: newLet", t.newLet(1, 0, 1), NONE);
      check.same("full object after refusals", Checker.picture(t), before);
      check.same("full: setRoot still works", t.setRoot(0), true);
      check.same("full: replace still works", t.replace(0, 1), true);
    }
    lastPlaceServesEveryCall();
  }

  private static void lastPlaceServesEveryCall() {
    for (int call = 0; call < 4; call++) {
      IncrAttrEval t = new IncrAttrEval(8);
      for (int n = 0; n < 7; n++) {
        t.newNum(n);
      }
      int id = call == 0 ? t.newNum(7)
        : call == 1 ? t.newVar(7)
        : call == 2 ? t.newOp(IncrAttrEval.ADD, 0, 6)
        : t.newLet(7, 0, 6);
      check.same("the last place, call " + call, id, 7);
      check.same("nodeCount when full", t.nodeCount(), 8);
    }
  }
}
