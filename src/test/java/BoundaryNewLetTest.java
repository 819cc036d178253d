import java.util.function.Consumer;

/** Promise 5, sentence by sentence: newLet at its edges. */
public final class BoundaryNewLetTest {
  private static final String PLACE = "Promise 5";
  private static final int NONE = IncrAttrEval.NONE;
  private static final Checker check = new Checker();

  public static void main(String[] args) {
    notANameIsRefused();
    initMustBeAFreeRoot();
    bodyMustBeAFreeRoot();
    oneNodeTwiceAndFullObject();
    letWithThatNameIsMade();
    childrenAndNewNode();
    refusedCallChangesNothing();
    nothingElseChanges();
    check.end();
  }

  /** The two names at the edges of the range, and one within it. */
  private static void someNames(Consumer<Joining> test) {
    for (int x : new int[] {0, 1, IncrAttrEval.NAMES - 1}) {
      test.accept(new Joining(check, "newLet of name " + x, (t, a, b) -> t.newLet(x, a, b)));
    }
  }

  private static void notANameIsRefused() {
    check.about(PLACE, "Condition 1: if x < 0 or x >= NAMES, the answer is NONE.");
    for (int x : Forest.NOT_NAMES) {
      check.same("newLet of name " + x + " with much room", Forest.make(32).newLet(x, 5, 6), NONE);
      check.same("newLet of name " + x + " with one place", Forest.make(9).newLet(x, 6, 7), NONE);
    }
  }

  private static void initMustBeAFreeRoot() {
    check.about(PLACE, "Condition 2: if a is not a free root, the answer is NONE. [not valid]");
    someNames(j -> j.notValidIn(0));
    check.about(PLACE, "Condition 2: if a is not a free root, the answer is NONE. [has a parent]");
    someNames(j -> j.withParentIn(0));
    check.about(PLACE, "Condition 2: if a is not a free root, the answer is NONE. [is the root]");
    someNames(j -> j.rootIn(0));
  }

  private static void bodyMustBeAFreeRoot() {
    check.about(PLACE, "Condition 3: if b is not a free root, the answer is NONE. [not valid]");
    someNames(j -> j.notValidIn(1));
    check.about(PLACE, "Condition 3: if b is not a free root, the answer is NONE. [has a parent]");
    someNames(j -> j.withParentIn(1));
    check.about(PLACE, "Condition 3: if b is not a free root, the answer is NONE. [is the root]");
    someNames(j -> j.rootIn(1));
  }

  private static void oneNodeTwiceAndFullObject() {
    check.about(PLACE, "Condition 4: if a == b, the answer is NONE.");
    someNames(Joining::oneNodeTwice);
    check.about(PLACE, "Condition 5: if nodeCount() == CAP, the answer is NONE.");
    someNames(Joining::fullObject);
  }

  private static void letWithThatNameIsMade() {
    check.about(PLACE, "Otherwise a LET node with name x is made, with init a in slot 0 and body b in slot 1.");
    for (int x = 0; x < IncrAttrEval.NAMES; x++) {
      IncrAttrEval t = Forest.make(9);
      String what = "newLet(" + x + ", 6, 5)";
      int n = t.newLet(x, 6, 5);
      check.same(what, n, 8);
      check.same(what + ", its kind", t.getKind(n), IncrAttrEval.LET);
      t.setRoot(n);
      for (int y = 0; y < IncrAttrEval.NAMES; y++) {
        check.same(what + ", name " + y + " bound in the body", t.isBound(5, y), y == x);
        check.same(what + ", name " + y + " in the body", t.getEnv(5, y), y == x ? 20 : 0);
        check.same(what + ", name " + y + " bound in the init", t.isBound(6, y), false);
      }
      check.same(what + ", its value", t.getVal(n), x == 1 ? -10 : 10);
      check.same(what + ", its errs", t.getErrs(n), x == 1 ? 0 : 1);
      check.same(what + ", its size", t.getSize(n), 5);
    }
  }

  private static void childrenAndNewNode() {
    check.about(PLACE, "parent(a) and parent(b) become the new node, which has parent NONE and is a free root. [a, b]");
    someNames(Joining::parentsBecomeTheNewNode);
    check.about(PLACE, "parent(a) and parent(b) become the new node, which has parent NONE and is a free root. [the new]");
    someNames(Joining::newNodeIsAFreeRoot);
    check.about(PLACE, "The answer is its id (the old nodeCount()); nodeCount() grows by one.");
    someNames(Joining::answerIsTheOldCount);
  }

  private static void refusedCallChangesNothing() {
    check.about(PLACE, "A refused call changes nothing.");
    for (int x : Forest.NOT_NAMES) {
      for (int capacity : new int[] {8, 9, 32}) {
        Forest.refused(check, "newLet of name " + x + ", capacity " + capacity,
          () -> Forest.make(capacity), t -> t.newLet(x, 5, 6), NONE);
      }
    }
    someNames(j -> {
      j.withParentIn(0);
      j.withParentIn(1);
      j.oneNodeTwice();
      j.fullObject();
    });
  }

  private static void nothingElseChanges() {
    check.about(PLACE, "A successful call changes only the new node and the parents of a and b; the root and every "
      + "attribute of every attached node stay as they were.");
    someNames(Joining::nothingElseChanges);
    someNames(j -> {
      j.subtreesKeepTheirShape(0);
      j.subtreesKeepTheirShape(1);
    });
  }
}
