/** Promise 7, sentence by sentence: replace at its edges. */
public final class BoundaryReplaceTest {
  private static final String PLACE = "Promise 7";
  private static final int NONE = IncrAttrEval.NONE;
  private static final int ADD = IncrAttrEval.ADD;
  private static final int SUB = IncrAttrEval.SUB;
  private static final int MUL = IncrAttrEval.MUL;
  private static final int LET = IncrAttrEval.LET;
  private static final Checker check = new Checker();

  public static void main(String[] args) {
    oldNotValidIsRefused();
    oldInAFreeSubtreeIsRefused();
    everyCallIsRefusedWithoutRoot();
    newNotAFreeRootIsRefused();
    rootIsReplacedAsBySetRoot();
    eitherSlotOfEveryKind();
    allElseStays();
    attributesOfTheNewTree();
    answerIsTrue();
    refusedCallChangesNothing();
    noNodeIsMade();
    displacedSubtreeIsOfUse();
    check.end();
  }

  private static void refuses(String why, int old, int nw) {
    for (int capacity : new int[] {8, 9, 32}) {
      Forest.refused(check, "replace(" + old + ", " + nw + ") (" + why + ")",
        () -> Forest.make(capacity), t -> t.replace(old, nw) ? 1 : 0, 0);
    }
  }

  private static void oldNotValidIsRefused() {
    check.about(PLACE, "Condition 1: if old is not attached, the answer is false. "
      + "This covers old that is not a valid id");
    for (int old : Forest.notValid()) {
      for (int nw : Forest.FREE_ROOTS) {
        refuses("old not valid", old, nw);
      }
    }
    for (int cap = 8; cap <= 32; cap++) {
      IncrAttrEval t = Forest.nums(cap, cap);
      t.setRoot(cap - 1);
      check.same("replace of the id after the last, CAP " + cap, t.replace(cap, 0), false);
      check.same("replace of the last id, CAP " + cap, t.replace(cap - 1, 0), true);
    }
  }

  private static void oldInAFreeSubtreeIsRefused() {
    check.about(PLACE, "Condition 1: [..] This covers [..] and old inside a free subtree");
    for (int old : Forest.DETACHED) {
      for (int nw : Forest.FREE_ROOTS) {
        refuses("old is free", old, nw);
      }
    }
    IncrAttrEval t = Forest.make(8);
    t.setRoot(6);
    for (int old = 0; old < 3; old++) {
      check.same("replace(" + old + ", 7) under the old root", t.replace(old, 7), false);
    }
    t.setRoot(2);
    t.replace(1, 5);
    check.same("replace of the node just displaced", t.replace(1, 7), false);
    check.same("replace below the node just put in", t.replace(4, 7), true);
    t.replace(5, 6);
    check.same("replace below the node just displaced", t.replace(3, 1), false);
  }

  private static void everyCallIsRefusedWithoutRoot() {
    check.about(PLACE, "Condition 1: [..] as well as every case when the root is NONE.");
    for (int old = -2; old <= 9; old++) {
      for (int nw = -2; nw <= 9; nw++) {
        int o = old;
        int n = nw;
        Forest.refused(check, "replace(" + o + ", " + n + ") without root",
          BoundaryReplaceTest::rootless, t -> t.replace(o, n) ? 1 : 0, 0);
      }
    }
    IncrAttrEval empty = new IncrAttrEval(8);
    check.same("replace(NONE, NONE) in a new object", empty.replace(NONE, NONE), false);
    check.same("replace(NONE, 0) with one node", Forest.nums(8, 1).replace(NONE, 0), false);
    check.same("replace(0, 0) with one node", Forest.nums(8, 1).replace(0, 0), false);
    check.same("replace(0, 1) with two nodes", Forest.nums(8, 2).replace(0, 1), false);
  }

  /** A free let 2 over 0 and 1, a free sum 5 over 3 and 4, and the free leaf 6. */
  private static IncrAttrEval rootless() {
    IncrAttrEval t = new IncrAttrEval(32);
    t.newNum(3);
    t.newVar(0);
    t.newLet(0, 0, 1);
    t.newNum(1);
    t.newVar(1);
    t.newOp(ADD, 3, 4);
    t.newNum(9);
    return t;
  }

  private static void newNotAFreeRootIsRefused() {
    check.about(PLACE, "Condition 2: if nw is not a free root, the answer is false. [not valid]");
    for (int old : Forest.ATTACHED) {
      for (int nw : Forest.notValid()) {
        refuses("new not valid", old, nw);
      }
    }
    check.about(PLACE, "Condition 2: if nw is not a free root, the answer is false. [has a parent]");
    for (int old : Forest.ATTACHED) {
      for (int nw : Forest.HAVE_PARENT) {
        refuses(old == nw ? "by itself" : "new has a parent", old, nw);
      }
    }
    check.about(PLACE, "Condition 2: if nw is not a free root, the answer is false. [is the root]");
    for (int old : Forest.ATTACHED) {
      refuses("new is the root", old, Forest.ROOT);
    }
    IncrAttrEval leaf = Forest.nums(8, 1);
    leaf.setRoot(0);
    check.same("a lone root by itself", leaf.replace(0, 0), false);
    check.same("a lone root by NONE", leaf.replace(0, NONE), false);
    check.same("the root afterwards", leaf.getRoot(), 0);
  }

  private static void rootIsReplacedAsBySetRoot() {
    check.about(PLACE, "Otherwise, if old is the root, the effect and answer are the same as `setRoot(nw)`.");
    for (int nw : Forest.FREE_ROOTS) {
      for (int capacity : new int[] {8, 9, 32}) {
        IncrAttrEval t = Forest.make(capacity);
        IncrAttrEval twin = Forest.make(capacity);
        check.same("setRoot(" + nw + ")", twin.setRoot(nw), true);
        check.same("replace(2, " + nw + ")", t.replace(2, nw), true);
        check.same("the root", t.getRoot(), nw);
        check.same("parent of the old root", t.getParent(2), NONE);
        check.same("parent of the new root", t.getParent(nw), NONE);
        check.same("the old root is not attached", t.getDepth(2), -1);
        Forest.likeTwin(check, "replace(2, " + nw + ") and setRoot", t, twin);
      }
    }
    IncrAttrEval t = Forest.make(8);
    check.same("the root by a leaf", t.replace(2, 6), true);
    check.same("a leaf root by the old root", t.replace(6, 2), true);
    Forest.likeTwin(check, "there and back", t, Forest.make(8));
  }

  /** Root 2 of that kind, over 50 and 7; the free NUM 3 is 11, the free VAR 4 has name 0. */
  private static IncrAttrEval inner(int kind) {
    IncrAttrEval t = new IncrAttrEval(8);
    t.newNum(50);
    t.newNum(7);
    int n = kind == LET ? t.newLet(0, 0, 1) : t.newOp(kind, 0, 1);
    t.newNum(11);
    t.newVar(0);
    t.setRoot(n);
    return t;
  }

  private static void eitherSlotOfEveryKind() {
    check.about(PLACE, "slot s of p now holds nw, parent(nw) becomes p, and parent(old) becomes NONE, "
      + "so old becomes a free root with its subtree unchanged.");
    int[] kinds = {ADD, SUB, MUL, LET};
    int[] in0 = {11 + 7, 11 - 7, 11 * 7, 7};
    int[] in1 = {50 + 11, 50 - 11, 50 * 11, 11};
    int[] var0 = {0 + 7, 0 - 7, 0, 7};
    int[] var1 = {50, 50, 0, 50};
    for (int i = 0; i < kinds.length; i++) {
      replaced(kinds[i], 0, 3, in0[i]);
      replaced(kinds[i], 1, 3, in1[i]);
      replaced(kinds[i], 0, 4, var0[i]);
      replaced(kinds[i], 1, 4, var1[i]);
    }
  }

  private static void replaced(int kind, int old, int nw, int value) {
    IncrAttrEval t = inner(kind);
    String what = "kind " + kind + ", replace(" + old + ", " + nw + "), ";
    check.same(what + "its answer", t.replace(old, nw), true);
    check.same(what + "value of the parent", t.getVal(2), value);
    check.same(what + "parent of the new", t.getParent(nw), 2);
    check.same(what + "parent of the old", t.getParent(old), NONE);
    check.same(what + "depth of the new", t.getDepth(nw), 1);
    check.same(what + "depth of the old", t.getDepth(old), -1);
    check.same(what + "size of the parent", t.getSize(2), 3);
    check.same(what + "parent in the other slot", t.getParent(1 - old), 2);
    check.same(what + "the new is no free root", t.setRoot(nw), false);
    check.same(what + "the same again", t.replace(old, nw), false);
    check.same(what + "back", t.replace(nw, old), true);
    Forest.likeTwin(check, what + "there and back", t, inner(kind));
  }

  private static void allElseStays() {
    check.about(PLACE, "The other slot of p, the root, and all other parents and slots are unchanged.");
    for (int nw : Forest.FREE_ROOTS) {
      IncrAttrEval init = Forest.make(8);
      init.replace(0, nw);
      sameButFor(init, 0, nw);
      check.same("the body still holds 1", init.replace(1, 0), true);
      IncrAttrEval body = Forest.make(8);
      body.replace(1, nw);
      sameButFor(body, 1, nw);
      check.same("the init still holds 0", body.getDepth(0), 1);
      check.same("and gives the name its value", body.getEnv(nw, 0), 3);
    }
  }

  private static void sameButFor(IncrAttrEval t, int old, int nw) {
    IncrAttrEval before = Forest.make(8);
    check.same("the root after replace(" + old + ", " + nw + ")", t.getRoot(), 2);
    for (int n = 0; n < Forest.MADE; n++) {
      check.same("kind of " + n + " after replace(" + old + ", " + nw + ")", t.getKind(n), before.getKind(n));
      int parent = n == old ? NONE : n == nw ? 2 : before.getParent(n);
      check.same("parent of " + n + " after replace(" + old + ", " + nw + ")", t.getParent(n), parent);
    }
  }

  /** A splice at the bottom is felt at the top, one in an init through the whole body. */
  private static void attributesOfTheNewTree() {
    check.about(PLACE, "Afterwards all attributes of the new tree hold as the equations define them.");
    for (int c : new int[] {0, 1, -1, Integer.MIN_VALUE, Integer.MAX_VALUE}) {
      IncrAttrEval t = chain();
      int init = t.newNum(c);
      check.same("replace of the topmost init", t.replace(0, init), true);
      for (int n : new int[] {1, 2, 3, 6, 9, 12, 15, 18, 21, 24, 27}) {
        check.same("name 0 at " + n, t.getEnv(n, 0), c);
        check.same("name 0 bound at " + n, t.isBound(n, 0), true);
      }
      check.same("name 0 used at the bottom", t.getVal(1), c);
      check.same("the value at the top", t.getVal(28), c + 9);
      check.same("the size at the top", t.getSize(28), 21);
      check.same("depth of the bottom", t.getDepth(1), 10);
    }
    spliceAtTheBottom();
  }

  private static void spliceAtTheBottom() {
    IncrAttrEval t = chain();
    int unbound = t.newVar(5);
    check.same("replace at the bottom by an unbound VAR", t.replace(1, unbound), true);
    check.same("the value at the top", t.getVal(28), 9);
    check.same("the errs at the top", t.getErrs(28), 1);
    check.same("replace at the bottom by the first VAR", t.replace(unbound, 1), true);
    check.same("the value at the top", t.getVal(28), 49);
    check.same("the errs at the top", t.getErrs(28), 0);
    int product = t.newOp(MUL, 4, 7);
    check.same("replace at the bottom by a greater tree", t.replace(1, product), true);
    check.same("the value at the top", t.getVal(28), 9);
    check.same("the size at the top", t.getSize(28), 23);
    check.same("depth of the new bottom", t.getDepth(7), 11);
    check.same("name 0 at the new bottom", t.getEnv(7, 0), 40);
  }

  /**
   * Root 28, let 0 = 40 in the body 27; below it nine sums, each of one and the next sum, the last
   * holding the VAR 1 of name 0. Every third id from 3 to 27 is a sum, every third from 2 its one
   * (the ids 4, 7, .. 25 are free NUMs).
   */
  private static IncrAttrEval chain() {
    IncrAttrEval t = new IncrAttrEval(32);
    t.newNum(40);
    int top = t.newVar(0);
    for (int i = 0; i < 9; i++) {
      int one = t.newNum(1);
      top = t.newOp(ADD, one, top);
      if (i < 8) {
        t.newNum(0);
      }
    }
    top = t.newLet(0, 0, top);
    t.setRoot(top);
    return t;
  }

  private static void answerIsTrue() {
    check.about(PLACE, "The answer is true.");
    for (int capacity : new int[] {8, 9, 32}) {
      for (int old : Forest.ATTACHED) {
        for (int nw : Forest.FREE_ROOTS) {
          IncrAttrEval t = Forest.make(capacity);
          check.same("replace(" + old + ", " + nw + ")", t.replace(old, nw), true);
          check.same("and back", t.replace(nw, old), true);
        }
      }
    }
  }

  private static void refusedCallChangesNothing() {
    check.about(PLACE, "A refused call changes nothing.");
    int[] ids = {Integer.MIN_VALUE, -1, 0, 1, 2, 3, 4, 5, 6, 7, 8, 31, 32, Integer.MAX_VALUE};
    for (int old : ids) {
      for (int nw : ids) {
        boolean taken = old >= 0 && old <= 2 && nw >= 5 && nw <= 7;
        if (!taken) {
          refuses("refused", old, nw);
        }
      }
    }
  }

  private static void noNodeIsMade() {
    check.about(PLACE, "No node is made and nodeCount() is unchanged.");
    for (int cap = 8; cap <= 32; cap++) {
      for (int old : Forest.ATTACHED) {
        IncrAttrEval t = Forest.make(cap);
        for (int n = Forest.MADE; n < cap; n++) {
          t.newNum(1);
        }
        check.same("replace in a full object, CAP " + cap, t.replace(old, 5), true);
        check.same("nodeCount after it", t.nodeCount(), cap);
        check.same("newNum after it", t.newNum(1), NONE);
        check.same("newOp of what is free", t.newOp(ADD, old, 6), NONE);
        IncrAttrEval u = Forest.make(9);
        u.replace(old, 7);
        check.same("nodeCount after replace with a place left", u.nodeCount(), 8);
        check.same("the next id", u.newNum(1), 8);
      }
    }
  }

  private static void displacedSubtreeIsOfUse() {
    check.about(PLACE, "The displaced subtree may later be used again by any method that accepts a free root.");
    check.same("by newOp in slot 0", displaced().newOp(MUL, 5, 1), 9);
    check.same("by newOp in slot 1", displaced().newOp(MUL, 1, 5), 9);
    check.same("by newLet in slot 0", displaced().newLet(7, 5, 1), 9);
    check.same("by newLet in slot 1", displaced().newLet(7, 1, 5), 9);
    IncrAttrEval t = displaced();
    check.same("by setRoot", t.setRoot(5), true);
    check.same("its value as root", t.getVal(5), 10);
    check.same("its errs as root", t.getErrs(5), 1);
    IncrAttrEval u = displaced();
    check.same("by replace in the other slot", u.replace(0, 5), true);
    check.same("its value as init", u.getEnv(6, 0), 10);
    check.same("the errs at the root", u.getErrs(2), 1);
    IncrAttrEval v = displaced();
    check.same("by replace at its old place", v.replace(6, 5), true);
    check.same("the value there", v.getVal(2), 10);
    IncrAttrEval w = displaced();
    check.same("by replace of the root", w.replace(2, 5), true);
    check.same("the displaced root", w.replace(4, 2), true);
    check.same("10 - 20 below it", w.getVal(5), -10);
    partOfTheDisplacedComesBack();
  }

  /** The forest with one more free NUM, the 8; node 5 was the body for a while, now node 6 is. */
  private static IncrAttrEval displaced() {
    IncrAttrEval t = Forest.make(32);
    t.newNum(8);
    t.replace(1, 5);
    t.replace(5, 6);
    return t;
  }

  private static void partOfTheDisplacedComesBack() {
    IncrAttrEval t = displaced();
    check.same("a part of the displaced is no free root", t.replace(6, 3), false);
    check.same("nor is the other part", t.replace(6, 4), false);
    int over = t.newLet(1, 8, 5);
    check.same("a let over the displaced", over, 9);
    check.same("put in its old place", t.replace(6, over), true);
    check.same("10 - 8", t.getVal(2), 2);
    check.same("without errs", t.getErrs(2), 0);
    check.same("depth of its leaf", t.getDepth(4), 3);
  }
}
