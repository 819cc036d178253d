/** The section "Nodes", sentence by sentence, on whose words promises 1 to 11 stand. */
public final class BoundaryNodesTest {
  private static final String PLACE = "Nodes (promises 1 to 11)";
  private static final int NONE = IncrAttrEval.NONE;
  private static final int ADD = IncrAttrEval.ADD;
  private static final Checker check = new Checker();

  public static void main(String[] args) {
    refusedCallsTakeNoNumber();
    atMostCapNodesExist();
    nodesAreNeverRemoved();
    kindAndPayloadAreFixed();
    leavesHaveNoChildren();
    slotsHoldOneNodeEach();
    slotsOfALet();
    heldNodesHaveTheirParent();
    noNodeIsHeldTwice();
    validIdsEndAtTheCount();
    rootIsNoneOrANodeWithoutParent();
    attachedFollowsTheParents();
    freeRootsAreTheOthersWithoutParent();
    check.end();
  }

  private static void refusedCallsTakeNoNumber() {
    check.about(PLACE, "Nodes are made one per successful call of `newNum`, `newVar`, `newOp` or `newLet` "
      + "and are numbered 0, 1, 2, ... in the order made.");
    IncrAttrEval t = new IncrAttrEval(9);
    for (int n = 0; n < 9; n++) {
      check.same("newVar of no name", t.newVar(8), NONE);
      check.same("newOp of no kind", t.newOp(IncrAttrEval.VAR, 0, 1), NONE);
      check.same("newLet of no name", t.newLet(-1, 0, 1), NONE);
      check.same("newOp of one node twice", t.newOp(ADD, n - 1, n - 1), NONE);
      check.same("newLet of a node to come", t.newLet(0, n - 1, n), NONE);
      check.same("id of node " + n, makeInTurn(t, n), n);
    }
    check.same("newNum when full", t.newNum(1), NONE);
  }

  private static int makeInTurn(IncrAttrEval t, int n) {
    switch (n % 3) {
      case 0: return t.newNum(n);
      case 1: return t.newVar(n % 8);
      default: return n == 5 ? t.newOp(ADD, 3, 4) : t.newLet(1, n - 2, n - 1);
    }
  }

  private static void atMostCapNodesExist() {
    check.about(PLACE, "At most CAP nodes exist, CAP being set by the constructor.");
    for (int cap = 8; cap <= 32; cap++) {
      IncrAttrEval t = new IncrAttrEval(cap);
      for (int call = 0; call < 3 * cap; call++) {
        makeInTurn(t, call % 5);
        t.newOp(ADD, call % cap, (call + 1) % cap);
        t.setRoot(call % cap);
      }
      check.same("nodeCount after many calls", t.nodeCount(), cap);
      check.same("kind of the last node is one", t.getKind(cap - 1) != 0, true);
      check.same("kind of the id after it", t.getKind(cap), 0);
      check.same("setRoot of the id after it", t.setRoot(cap), false);
    }
  }

  private static void nodesAreNeverRemoved() {
    check.about(PLACE, "Nodes are never removed.");
    int[] kind = {1, 2, 6, 1, 2, 4, 1, 2};
    IncrAttrEval t = Forest.make(8);
    t.replace(1, 5);
    t.replace(2, 6);
    t.replace(6, 7);
    for (int n = 0; n < kind.length; n++) {
      check.same("kind of " + n + " after all was displaced", t.getKind(n), kind[n]);
    }
    check.same("nodeCount after all was displaced", t.nodeCount(), 8);
    check.same("no place became free", t.newNum(1), NONE);
    check.same("the first tree is still to be had", t.setRoot(2), true);
    check.same("its size, with the spliced body", t.getSize(2), 5);
  }

  private static void kindAndPayloadAreFixed() {
    check.about(PLACE, "Each node has a kind (NUM, VAR, ADD, SUB, MUL, LET) and a payload, both fixed at creation: "
      + "the constant of a NUM, the name of a VAR or a LET, none for ADD, SUB, MUL.");
    for (int old : Forest.ATTACHED) {
      for (int nw : Forest.FREE_ROOTS) {
        IncrAttrEval t = Forest.make(32);
        t.replace(old, nw);
        t.replace(nw, old);
        t.newOp(IncrAttrEval.LET, 5, 6);
        t.newVar(9);
        Forest.likeTwin(check, "replace(" + old + ", " + nw + ") and back", t, Forest.make(32));
      }
    }
  }

  private static boolean isInner(IncrAttrEval t, int n) {
    return t.getKind(n) >= ADD;
  }

  private static int children(IncrAttrEval t, int p) {
    int count = 0;
    for (int n = 0; n < t.nodeCount(); n++) {
      count += t.getParent(n) == p ? 1 : 0;
    }
    return count;
  }

  private static void leavesHaveNoChildren() {
    check.about(PLACE, "NUM and VAR nodes have no children.");
    Forest.eachShape(3, (when, t) -> {
      for (int n = 0; n < t.nodeCount(); n++) {
        if (!isInner(t, n)) {
          check.same(when + ", children of leaf " + n, children(t, n), 0);
        }
      }
    });
  }

  private static void slotsHoldOneNodeEach() {
    check.about(PLACE, "ADD, SUB, MUL and LET nodes have two child slots, slot 0 and slot 1, "
      + "each always holding exactly one node");
    Forest.eachShape(3, (when, t) -> {
      for (int n = 0; n < t.nodeCount(); n++) {
        if (isInner(t, n)) {
          check.same(when + ", children of " + n, children(t, n), 2);
        }
      }
    });
  }

  private static void slotsOfALet() {
    check.about(PLACE, "for a LET, slot 0 is the init and slot 1 the body.");
    for (int x = 0; x < IncrAttrEval.NAMES; x++) {
      IncrAttrEval t = Forest.nums(8, 2);
      t.setRoot(t.newLet(x, 1, 0));
      check.same("value of a let is its slot 1's", t.getVal(2), 100);
      check.same("name " + x + " in slot 1 is slot 0's value", t.getEnv(0, x), 101);
      check.same("name " + x + " is not bound in slot 0", t.isBound(1, x), false);
    }
  }

  private static void heldNodesHaveTheirParent() {
    check.about(PLACE, "A node held in a slot of node p has parent p; every other node has parent NONE.");
    Forest.eachShape(3, (when, t) -> {
      int held = 0;
      int inner = 0;
      for (int n = 0; n < t.nodeCount(); n++) {
        int p = t.getParent(n);
        check.same(when + ", parent of " + n + " is NONE or an inner node", p == NONE || isInner(t, p), true);
        held += p == NONE ? 0 : 1;
        inner += isInner(t, n) ? 1 : 0;
      }
      check.same(when + ", nodes with a parent", held, 2 * inner);
    });
  }

  private static void noNodeIsHeldTwice() {
    check.about(PLACE, "No node is held in two slots.");
    for (int n : new int[] {0, 1, 3, 4}) {
      IncrAttrEval t = Forest.make(32);
      int parent = t.getParent(n);
      check.same("newOp of held node " + n + " in slot 0", t.newOp(ADD, n, 6), NONE);
      check.same("newOp of held node " + n + " in slot 1", t.newOp(ADD, 6, n), NONE);
      check.same("newLet of held node " + n + " in slot 0", t.newLet(0, n, 6), NONE);
      check.same("newLet of held node " + n + " in slot 1", t.newLet(0, 6, n), NONE);
      for (int old : Forest.ATTACHED) {
        check.same("replace(" + old + ", " + n + ") by a held node", t.replace(old, n), false);
      }
      check.same("parent of held node " + n, t.getParent(n), parent);
    }
    check.same("newOp of node 6 twice", Forest.make(32).newOp(ADD, 6, 6), NONE);
    check.same("newLet of node 6 twice", Forest.make(32).newLet(0, 6, 6), NONE);
    IncrAttrEval t = Forest.make(32);
    t.replace(0, 6);
    check.same("a node just put in is not put in again", t.replace(1, 6), false);
  }

  private static void validIdsEndAtTheCount() {
    check.about(PLACE, "A valid id is an int v with 0 <= v < nodeCount().");
    for (int made = 0; made <= 32; made++) {
      for (int v = -1; v <= 33; v++) {
        boolean valid = v >= 0 && v < made;
        check.same("setRoot(" + v + ") with " + made + " nodes", Forest.nums(32, made).setRoot(v), valid);
        check.same("getKind(" + v + ") with " + made + " nodes", Forest.nums(32, made).getKind(v), valid ? 1 : 0);
      }
      for (int v : Forest.NEVER_VALID) {
        check.same("setRoot(" + v + ") with " + made + " nodes", Forest.nums(32, made).setRoot(v), false);
      }
    }
  }

  private static void rootIsNoneOrANodeWithoutParent() {
    check.about(PLACE, "The root is NONE or one valid node whose parent is NONE; a fresh object has root NONE.");
    check.same("root of a fresh object", new IncrAttrEval(8).getRoot(), NONE);
    Forest.eachShape(3, (when, t) -> {
      int root = t.getRoot();
      check.same(when + ", the root is valid", root >= 0 && root < t.nodeCount(), true);
      check.same(when + ", parent of the root", t.getParent(root), NONE);
    });
  }

  private static void attachedFollowsTheParents() {
    check.about(PLACE, "A node is ATTACHED when it is the root or its parent is attached.");
    Forest.eachShape(3, (when, t) -> {
      for (int n = 0; n < t.nodeCount(); n++) {
        boolean attached = n == t.getRoot() || t.getDepth(t.getParent(n)) >= 0;
        check.same(when + ", size of " + n + " is told", t.getSize(n) > 0, attached);
        check.same(when + ", depth of " + n + " is told", t.getDepth(n) >= 0, attached);
        check.same(when + ", errs of " + n + " are told", t.getErrs(n) >= 0, attached);
      }
    });
  }

  private static void freeRootsAreTheOthersWithoutParent() {
    check.about(PLACE, "A FREE ROOT is a valid node whose parent is NONE and that is not the root.");
    for (int n = 0; n < 8; n++) {
      boolean free = n >= 5;
      check.same("setRoot(" + n + ")", Forest.make(8).setRoot(n), free);
      check.same("replace(1, " + n + ")", Forest.make(8).replace(1, n), free);
      IncrAttrEval t = Forest.make(10);
      int other = t.newNum(1);
      check.same("newOp of " + n, t.newOp(ADD, n, other) != NONE, free);
      IncrAttrEval u = Forest.make(10);
      check.same("newLet of " + n, u.newLet(0, u.newNum(1), n) != NONE, free);
    }
  }
}
