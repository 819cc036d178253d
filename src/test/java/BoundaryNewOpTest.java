import java.util.function.Consumer;

/** Promise 4, sentence by sentence: newOp at its edges. */
public final class BoundaryNewOpTest {
  private static final String PLACE = "Promise 4";
  private static final int NONE = IncrAttrEval.NONE;
  private static final int ADD = IncrAttrEval.ADD;
  private static final int SUB = IncrAttrEval.SUB;
  private static final int MUL = IncrAttrEval.MUL;
  private static final int[] NOT_OPS = {Integer.MIN_VALUE, -65533, -253, -5, -4, -3, -1, 0, IncrAttrEval.NUM,
    IncrAttrEval.VAR, IncrAttrEval.LET, 7, 8, 11, 256 + ADD, 65536 + SUB, (1 << 30) + MUL, Integer.MAX_VALUE};
  private static final Checker check = new Checker();

  public static void main(String[] args) {
    otherKindsAreRefused();
    slot0MustBeAFreeRoot();
    slot1MustBeAFreeRoot();
    oneNodeTwiceAndFullObject();
    nodeOfThatKindIsMade();
    childrenAndNewNode();
    refusedCallChangesNothing();
    nothingElseChanges();
    check.end();
  }

  private static void eachKind(Consumer<Joining> test) {
    for (int kind = ADD; kind <= MUL; kind++) {
      int k = kind;
      test.accept(new Joining(check, "newOp of kind " + k, (t, a, b) -> t.newOp(k, a, b)));
    }
  }

  private static void otherKindsAreRefused() {
    check.about(PLACE, "Condition 1: if kind is not ADD, SUB or MUL, the answer is NONE.");
    for (int kind : NOT_OPS) {
      check.same("newOp of kind " + kind + " with much room", Forest.make(32).newOp(kind, 5, 6), NONE);
      check.same("newOp of kind " + kind + " with one place", Forest.make(9).newOp(kind, 6, 7), NONE);
    }
  }

  private static void slot0MustBeAFreeRoot() {
    check.about(PLACE, "Condition 2: if a is not a free root, the answer is NONE. "
      + "This covers a that is not a valid id");
    eachKind(j -> j.notValidIn(0));
    check.about(PLACE, "Condition 2: [..] This covers [..] a that has a parent");
    eachKind(j -> j.withParentIn(0));
    check.about(PLACE, "Condition 2: [..] This covers [..] and a that is the root.");
    eachKind(j -> j.rootIn(0));
  }

  private static void slot1MustBeAFreeRoot() {
    check.about(PLACE, "Condition 3: if b is not a free root, the answer is NONE, in the same sense. [not valid]");
    eachKind(j -> j.notValidIn(1));
    check.about(PLACE, "Condition 3: if b is not a free root, the answer is NONE, in the same sense. [has a parent]");
    eachKind(j -> j.withParentIn(1));
    check.about(PLACE, "Condition 3: if b is not a free root, the answer is NONE, in the same sense. [is the root]");
    eachKind(j -> j.rootIn(1));
  }

  private static void oneNodeTwiceAndFullObject() {
    check.about(PLACE, "Condition 4: if a == b, the answer is NONE.");
    eachKind(Joining::oneNodeTwice);
    check.about(PLACE, "Condition 5: if nodeCount() == CAP, the answer is NONE.");
    eachKind(Joining::fullObject);
  }

  private static void nodeOfThatKindIsMade() {
    check.about(PLACE, "Otherwise a node of that kind is made with a in slot 0 and b in slot 1.");
    int[] value = {10 + 20, 10 - 20, 10 * 20};
    int[] swapped = {20 + 10, 20 - 10, 20 * 10};
    for (int kind = ADD; kind <= MUL; kind++) {
      looksLike(kind, 5, 6, value[kind - ADD]);
      looksLike(kind, 6, 5, swapped[kind - ADD]);
    }
  }

  private static void looksLike(int kind, int a, int b, int value) {
    IncrAttrEval t = Forest.make(9);
    String what = "newOp(" + kind + ", " + a + ", " + b + ")";
    int n = t.newOp(kind, a, b);
    check.same(what, n, 8);
    check.same(what + ", its kind", t.getKind(n), kind);
    t.setRoot(n);
    check.same(what + ", its value", t.getVal(n), value);
    check.same(what + ", its size", t.getSize(n), 5);
    check.same(what + ", its errs", t.getErrs(n), 1);
  }

  private static void childrenAndNewNode() {
    check.about(PLACE, "parent(a) and parent(b) become the new node, so a and b are no longer free roots.");
    eachKind(Joining::parentsBecomeTheNewNode);
    check.about(PLACE, "The new node has parent NONE and is a free root.");
    eachKind(Joining::newNodeIsAFreeRoot);
    check.about(PLACE, "The answer is its id (the old nodeCount()); nodeCount() grows by one.");
    eachKind(Joining::answerIsTheOldCount);
  }

  private static void refusedCallChangesNothing() {
    check.about(PLACE, "A refused call changes nothing.");
    for (int kind : NOT_OPS) {
      for (int capacity : new int[] {8, 9, 32}) {
        Forest.refused(check, "newOp of kind " + kind + ", capacity " + capacity,
          () -> Forest.make(capacity), t -> t.newOp(kind, 5, 6), NONE);
      }
    }
    eachKind(j -> {
      j.withParentIn(0);
      j.withParentIn(1);
      j.oneNodeTwice();
      j.fullObject();
    });
  }

  private static void nothingElseChanges() {
    check.about(PLACE, "A successful call changes only the new node and the parents of a and b; the root and the tree "
      + "under it are untouched, so every attribute of every attached node stays as it was.");
    eachKind(Joining::nothingElseChanges);
    check.about(PLACE, "The subtrees under a and b keep their shape.");
    eachKind(j -> {
      j.subtreesKeepTheirShape(0);
      j.subtreesKeepTheirShape(1);
    });
  }
}
