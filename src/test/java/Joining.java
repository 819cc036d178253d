/** The edges that newOp and newLet have in common; each method is about one sentence, which its caller names. */
final class Joining {
  /** One of the two calls, with its kind or name already chosen. */
  interface Join {
    int of(IncrAttrEval t, int a, int b);
  }

  private static final int NONE = IncrAttrEval.NONE;
  private final Checker check;
  private final String call;
  private final Join join;

  Joining(Checker check, String call, Join join) {
    this.check = check;
    this.call = call;
    this.join = join;
  }

  /** Each of these in that slot, beside a free root that is taken otherwise. */
  private void refusesInSlot(int slot, String why, int... ids) {
    for (int id : ids) {
      for (int free : Forest.FREE_ROOTS) {
        int a = slot == 0 ? id : free;
        int b = slot == 0 ? free : id;
        refuses(why, a, b, 9);
        refuses(why + ", much room", a, b, 32);
      }
    }
  }

  private void refuses(String why, int a, int b, int capacity) {
    String what = call + " of " + a + " and " + b + " (" + why + ")";
    Forest.refused(check, what, () -> Forest.make(capacity), t -> join.of(t, a, b), NONE);
  }

  void notValidIn(int slot) {
    refusesInSlot(slot, "not valid", Forest.notValid());
    IncrAttrEval empty = new IncrAttrEval(8);
    check.same(call + " in a new object", join.of(empty, 0, 1), NONE);
    IncrAttrEval one = Forest.nums(8, 1);
    check.same(call + " with one node", slot == 0 ? join.of(one, 1, 0) : join.of(one, 0, 1), NONE);
    check.same(call + " with one node and NONE", slot == 0 ? join.of(one, NONE, 0) : join.of(one, 0, NONE), NONE);
    check.same(call + " with one node and the last id", slot == 0 ? join.of(one, 7, 0) : join.of(one, 0, 7), NONE);
  }

  void withParentIn(int slot) {
    refusesInSlot(slot, "has a parent", Forest.HAVE_PARENT);
  }

  void rootIn(int slot) {
    refusesInSlot(slot, "is the root", Forest.ROOT);
    IncrAttrEval leaf = Forest.nums(8, 2);
    leaf.setRoot(0);
    check.same(call + " with a leaf as root", slot == 0 ? join.of(leaf, 0, 1) : join.of(leaf, 1, 0), NONE);
    leaf.setRoot(1);
    check.same(call + " after the root was changed", slot == 0 ? join.of(leaf, 1, 0) : join.of(leaf, 0, 1), NONE);
  }

  void oneNodeTwice() {
    for (int n : Forest.FREE_ROOTS) {
      refuses("one node twice", n, n, 9);
      refuses("one node twice, much room", n, n, 32);
    }
    check.same(call + " of the only node twice", join.of(Forest.nums(8, 1), 0, 0), NONE);
  }

  void fullObject() {
    for (int a : Forest.FREE_ROOTS) {
      for (int b : Forest.FREE_ROOTS) {
        if (a != b) {
          refuses("full", a, b, 8);
        }
      }
    }
    for (int cap = 8; cap <= 32; cap++) {
      IncrAttrEval t = Forest.nums(cap, cap);
      String before = Checker.picture(t);
      check.same(call + " when full, CAP " + cap, join.of(t, 0, cap - 1), NONE);
      check.same(call + " when full, CAP " + cap + ": every answer", Checker.picture(t), before);
      check.same(call + " when full: the first node is still free", t.setRoot(0), true);
      check.same(call + " when full: the last node is still free", t.setRoot(cap - 1), true);
    }
  }

  /** Every pair of different free roots is taken, in either order; the new node's id is 8. */
  void parentsBecomeTheNewNode() {
    for (int a : Forest.FREE_ROOTS) {
      for (int b : Forest.FREE_ROOTS) {
        if (a == b) {
          continue;
        }
        IncrAttrEval t = Forest.make(9);
        String what = call + " of " + a + " and " + b;
        check.same(what, join.of(t, a, b), 8);
        check.same(what + ", parent in slot 0", t.getParent(a), 8);
        check.same(what + ", parent in slot 1", t.getParent(b), 8);
        check.same(what + ", setRoot of slot 0", t.setRoot(a), false);
        check.same(what + ", setRoot of slot 1", t.setRoot(b), false);
        check.same(what + ", replace by slot 0", t.replace(1, a), false);
        check.same(what + ", replace by slot 1", t.replace(1, b), false);
      }
    }
  }

  void newNodeIsAFreeRoot() {
    IncrAttrEval t = Forest.make(9);
    int n = join.of(t, 5, 6);
    check.same(call + ", parent of the new node", t.getParent(n), NONE);
    check.same(call + ", depth of the new node", t.getDepth(n), -1);
    check.same(call + ", setRoot of the new node", t.setRoot(n), true);
    IncrAttrEval u = Forest.make(9);
    check.same(call + ", replace by the new node", u.replace(1, join.of(u, 5, 6)), true);
    IncrAttrEval w = Forest.make(10);
    check.same(call + " over the new node", join.of(w, join.of(w, 5, 6), 7), 9);
  }

  /** From the third node, the first that can be joined, to the last place of every capacity. */
  void answerIsTheOldCount() {
    for (int cap = 8; cap <= 32; cap++) {
      for (int made = 2; made < cap; made++) {
        IncrAttrEval t = Forest.nums(cap, made);
        check.same(call + " with " + made + " nodes, CAP " + cap, join.of(t, made - 1, 0), made);
        check.same(call + ", nodeCount after it", t.nodeCount(), made + 1);
      }
    }
  }

  void nothingElseChanges() {
    for (int capacity : new int[] {9, 32}) {
      IncrAttrEval t = Forest.make(capacity);
      String before = Checker.pictureWithout(t, 5, 6, 8);
      String[] joined = {Checker.attributes(t, 5), Checker.attributes(t, 6)};
      join.of(t, 5, 6);
      check.same(call + ", the other nodes", Checker.pictureWithout(t, 5, 6, 8), before);
      check.same(call + ", kind in slot 0", t.getKind(5), IncrAttrEval.SUB);
      check.same(call + ", kind in slot 1", t.getKind(6), IncrAttrEval.NUM);
      check.same(call + ", attributes in slot 0", Checker.attributes(t, 5), joined[0]);
      check.same(call + ", attributes in slot 1", Checker.attributes(t, 6), joined[1]);
    }
    IncrAttrEval rootless = Forest.nums(8, 2);
    join.of(rootless, 0, 1);
    check.same(call + ", the root when there is none", rootless.getRoot(), NONE);
  }

  /** The free subtree 5, 10 - name 1, is below the new node what it was before. */
  void subtreesKeepTheirShape(int slot) {
    IncrAttrEval t = Forest.make(9);
    int n = slot == 0 ? join.of(t, 5, 6) : join.of(t, 6, 5);
    check.same(call + ", kind of the subtree", t.getKind(5), IncrAttrEval.SUB);
    check.same(call + ", parent in its slot 0", t.getParent(3), 5);
    check.same(call + ", parent in its slot 1", t.getParent(4), 5);
    t.setRoot(n);
    check.same(call + ", its size", t.getSize(5), 3);
    check.same(call + ", its value", t.getVal(5), 10 - t.getVal(4));
    check.same(call + ", the constant", t.getVal(3), 10);
    check.same(call + ", size of the whole", t.getSize(n), 5);
    check.same(call + ", depth of the leaves", t.getDepth(4), 2);
  }
}
