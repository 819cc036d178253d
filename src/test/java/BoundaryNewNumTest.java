/** Promise 2, sentence by sentence: newNum at its edges. */
public final class BoundaryNewNumTest {
  private static final String PLACE = "Promise 2";
  private static final int NONE = IncrAttrEval.NONE;
  private static final int[] CONSTANTS = {0, 1, -1, 2, 127, 128, -128, -129, 255, 256, 32767, 32768, -32769, 65536,
    1 << 30, 0x12345678, Integer.MAX_VALUE - 1, Integer.MAX_VALUE, Integer.MIN_VALUE + 1, Integer.MIN_VALUE};
  private static final Checker check = new Checker();

  public static void main(String[] args) {
    anyConstantIsAccepted();
    fullObjectRefuses();
    nodeHasConstantAndNoParent();
    nodeIsAFreeRoot();
    answerIsTheOldCount();
    nothingElseChanges();
    check.end();
  }

  private static void anyConstantIsAccepted() {
    check.about(PLACE, "`newNum(int c)` accepts any int c.");
    IncrAttrEval t = new IncrAttrEval(32);
    for (int i = 0; i < CONSTANTS.length; i++) {
      check.same("newNum(" + CONSTANTS[i] + ")", t.newNum(CONSTANTS[i]), i);
    }
  }

  private static void fullObjectRefuses() {
    check.about(PLACE, "Condition 1: if nodeCount() == CAP, the answer is NONE and nothing changes.");
    for (int cap = 8; cap <= 32; cap++) {
      int size = cap;
      Forest.refused(check, "newNum(1) in a full object of NUMs, CAP " + cap,
        () -> Forest.nums(size, size), t -> t.newNum(1), NONE);
    }
    for (int c : CONSTANTS) {
      Forest.refused(check, "newNum(" + c + ") in a full forest", () -> Forest.make(8), t -> t.newNum(c), NONE);
    }
  }

  private static void nodeHasConstantAndNoParent() {
    check.about(PLACE, "Otherwise a NUM node with constant c and parent NONE is made.");
    for (int c : CONSTANTS) {
      IncrAttrEval t = Forest.make(9);
      int n = t.newNum(c);
      check.same("kind of newNum(" + c + ")", t.getKind(n), IncrAttrEval.NUM);
      check.same("parent of newNum(" + c + ")", t.getParent(n), NONE);
      t.replace(1, n);
      check.same("value of newNum(" + c + ") in a body", t.getVal(n), c);
      check.same("value of the let over newNum(" + c + ")", t.getVal(2), c);
      t.setRoot(5);
      t.setRoot(2);
      check.same("value of newNum(" + c + ") later on", t.getVal(n), c);
    }
  }

  private static void nodeIsAFreeRoot() {
    check.about(PLACE, "It is a free root.");
    for (int cap = 8; cap <= 32; cap++) {
      IncrAttrEval t = Forest.nums(cap, cap);
      for (int n = 0; n < cap; n++) {
        check.same("depth of a new NUM " + n, t.getDepth(n), -1);
        check.same("setRoot of a new NUM " + n, t.setRoot(n), true);
      }
    }
    check.same("a new NUM in newOp, slot 0", Forest.nums(8, 2).newOp(IncrAttrEval.ADD, 0, 1), 2);
    check.same("a new NUM in newLet, slot 1", Forest.nums(8, 2).newLet(0, 0, 1), 2);
    IncrAttrEval t = Forest.make(9);
    int n = t.newNum(1);
    check.same("a new NUM in replace", t.replace(1, n), true);
  }

  private static void answerIsTheOldCount() {
    check.about(PLACE, "The answer is its id, which is the old nodeCount(); nodeCount() grows by one.");
    for (int capacity : new int[] {0, 8, 9, 31, 32, 100}) {
      int cap = capacity < 8 ? 8 : Math.min(capacity, 32);
      IncrAttrEval t = new IncrAttrEval(capacity);
      for (int n = 0; n < cap; n++) {
        check.same("CAP " + cap + ", nodeCount before", t.nodeCount(), n);
        check.same("CAP " + cap + ", newNum number " + n, t.newNum(-n), n);
        check.same("CAP " + cap + ", nodeCount after", t.nodeCount(), n + 1);
      }
    }
  }

  private static void nothingElseChanges() {
    check.about(PLACE, "Nothing else changes: the root, every existing node's kind, payload, slots and parent, "
      + "and every attribute of every attached node stay as they were.");
    IncrAttrEval empty = new IncrAttrEval(8);
    empty.newNum(7);
    check.same("root after the first newNum", empty.getRoot(), NONE);
    for (int capacity : new int[] {9, 32}) {
      IncrAttrEval t = Forest.make(capacity);
      String before = Checker.pictureWithout(t, 8);
      t.newNum(77);
      check.same("the other nodes after newNum, CAP " + capacity, Checker.pictureWithout(t, 8), before);
    }
    eachFreeRootKeepsItsPayload();
  }

  private static void eachFreeRootKeepsItsPayload() {
    IncrAttrEval t = Forest.make(32);
    for (int n = Forest.MADE; n < 32; n++) {
      t.newNum(-5);
      check.same("root while filling", t.getRoot(), 2);
    }
    check.same("value of the root when full", t.getVal(2), 3);
    t.replace(1, 5);
    check.same("10 - name 1 in the body", t.getVal(2), 10);
    check.same("its error", t.getErrs(2), 1);
    t.replace(5, 7);
    check.same("name 0 in the body", t.getVal(2), 3);
    t.replace(7, 6);
    check.same("20 in the body", t.getVal(2), 20);
  }
}
