/** The section "Attributes", sentence by sentence, on whose words promises 6, 7 and 12 to 16 stand. */
public final class BoundaryAttributesTest {
  private static final String PLACE = "Attributes (promises 6, 7 and 12 to 16)";
  private static final int NONE = IncrAttrEval.NONE;
  private static final int NUM = IncrAttrEval.NUM;
  private static final int ADD = IncrAttrEval.ADD;
  private static final int SUB = IncrAttrEval.SUB;
  private static final int MUL = IncrAttrEval.MUL;
  private static final int NAMES = IncrAttrEval.NAMES;
  private static final Checker check = new Checker();

  public static void main(String[] args) {
    definedOnAttachedNodesOnly();
    depthGrowsFromTheRoot();
    nothingIsBoundAtTheRoot();
    operandsInheritTheEnv();
    initInheritsTheEnv();
    bodyHasTheNameToo();
    valueOfALeaf();
    arithmeticWrapsAround();
    valueOfALet();
    errsAddUp();
    sizesAddUp();
    earlierPlacesHaveNoEffect();
    likeAFreshObject();
    notAttachedAnswers();
    check.end();
  }

  private static void definedOnAttachedNodesOnly() {
    check.about(PLACE, "Attributes are defined on attached nodes only");
    IncrAttrEval t = Forest.make(8);
    for (int n = 0; n < 8; n++) {
      boolean attached = n <= 2;
      check.same("depth of " + n + " is told", t.getDepth(n) != -1, attached);
      check.same("size of " + n + " is told", t.getSize(n) != -1, attached);
      check.same("errs of " + n + " are told", t.getErrs(n) != -1, attached);
      check.same("value of " + n + " is told", t.getVal(n) != 0, attached);
    }
  }

  private static void depthGrowsFromTheRoot() {
    check.about(PLACE, "depth(n): 0 for the root, otherwise depth(parent(n)) + 1.");
    IncrAttrEval t = Forest.make(8);
    check.same("depth of the root", t.getDepth(2), 0);
    check.same("depth in slot 0", t.getDepth(0), 1);
    check.same("depth in slot 1", t.getDepth(1), 1);
    t.replace(1, 5);
    check.same("depth of a subtree put in", t.getDepth(5), 1);
    check.same("depth in its slot 0", t.getDepth(3), 2);
    check.same("depth in its slot 1", t.getDepth(4), 2);
    t.replace(2, 1);
    t.replace(1, 2);
    check.same("depth of a root put back", t.getDepth(2), 0);
    check.same("depth two below it", t.getDepth(4), 2);
  }

  private static void nothingIsBoundAtTheRoot() {
    check.about(PLACE, "The root: no name bound, every value 0.");
    for (int root : new int[] {2, 5, 6, 7}) {
      IncrAttrEval t = Forest.make(8);
      t.setRoot(root);
      bindsNothing("root " + root, t, root);
    }
    for (int body : Forest.FREE_ROOTS) {
      IncrAttrEval t = Forest.make(8);
      t.replace(1, body);
      t.replace(body, 1);
      t.replace(2, body);
      bindsNothing("root " + body + " that was a body", t, body);
    }
  }

  private static void bindsNothing(String what, IncrAttrEval t, int n) {
    for (int x = 0; x < NAMES; x++) {
      check.same(what + ", isBound of " + x, t.isBound(n, x), false);
      check.same(what + ", getEnv of " + x, t.getEnv(n, x), 0);
    }
  }

  /** Both have the same env, in which every name is bound. */
  private static void sameEnv(String what, IncrAttrEval t, int one, int other) {
    for (int x = 0; x < NAMES; x++) {
      check.same(what + ", isBound of " + x, t.isBound(one, x), t.isBound(other, x));
      check.same(what + ", getEnv of " + x, t.getEnv(one, x), t.getEnv(other, x));
      check.same(what + ", every name is bound", t.isBound(one, x), true);
    }
  }

  private static void operandsInheritTheEnv() {
    check.about(PLACE, "A node in either slot of an ADD, SUB or MUL p: the same env as p.");
    for (int kind = ADD; kind <= MUL; kind++) {
      IncrAttrEval t = new IncrAttrEval(32);
      t.newNum(4);
      t.newVar(7);
      int op = t.newOp(kind, 0, 1);
      t.setRoot(Forest.bindAllNames(t, op));
      sameEnv("slot 0 of kind " + kind, t, 0, op);
      sameEnv("slot 1 of kind " + kind, t, 1, op);
      IncrAttrEval bare = Forest.nums(8, 2);
      bare.setRoot(bare.newOp(kind, 0, 1));
      bindsNothing("slot 0 of a root of kind " + kind, bare, 0);
      bindsNothing("slot 1 of a root of kind " + kind, bare, 1);
    }
  }

  private static void initInheritsTheEnv() {
    check.about(PLACE, "The node in slot 0 of a LET p: the same env as p.");
    for (int x = 0; x < NAMES; x++) {
      IncrAttrEval t = new IncrAttrEval(32);
      t.newNum(4);
      t.newVar(x);
      int let = t.newLet(x, 0, 1);
      t.setRoot(Forest.bindAllNames(t, let));
      sameEnv("init of a let of " + x, t, 0, let);
      check.same("the init does not see its own name's new value", t.getEnv(0, x), 1000 + 7 * x);
      IncrAttrEval bare = Forest.nums(8, 2);
      bare.setRoot(bare.newLet(x, 0, 1));
      bindsNothing("init of a root let of " + x, bare, 0);
    }
  }

  private static void bodyHasTheNameToo() {
    check.about(PLACE, "The node in slot 1 of a LET p with name x: the same env as p, except that bound(.,x) is true "
      + "and value(.,x) is val(s0 of p).");
    for (int x = 0; x < NAMES; x++) {
      IncrAttrEval t = new IncrAttrEval(32);
      t.newNum(4);
      t.newVar(x);
      int let = t.newLet(x, 0, 1);
      t.setRoot(Forest.bindAllNames(t, let));
      IncrAttrEval bare = Forest.nums(8, 2);
      bare.setRoot(bare.newLet(x, 0, 1));
      for (int y = 0; y < NAMES; y++) {
        check.same("name " + y + " in the body of a let of " + x, t.getEnv(1, y), y == x ? 4 : 1000 + 7 * y);
        check.same("name " + y + " bound in that body", t.isBound(1, y), true);
        check.same("name " + y + " in the body of a root let of " + x, bare.getEnv(1, y), y == x ? 100 : 0);
        check.same("name " + y + " bound in that body", bare.isBound(1, y), y == x);
      }
    }
  }

  private static void valueOfALeaf() {
    check.about(PLACE, "val(n): NUM: its constant. VAR with name x: value(n,x) if bound(n,x), otherwise 0.");
    for (int c : new int[] {Integer.MIN_VALUE, -1, 0, 1, Integer.MAX_VALUE}) {
      for (int x = 0; x < NAMES; x++) {
        IncrAttrEval t = new IncrAttrEval(8);
        int init = t.newNum(c);
        int use = t.newVar(x);
        t.setRoot(t.newLet(x, init, use));
        check.same("value of the NUM " + c, t.getVal(init), c);
        check.same("value of name " + x + " bound to " + c, t.getVal(use), c);
        int other = t.newNum(6);
        t.replace(use, other);
        t.setRoot(use);
        check.same("value of name " + x + " unbound", t.getVal(use), 0);
      }
    }
  }

  private static void arithmeticWrapsAround() {
    check.about(PLACE, "ADD: val(s0)+val(s1). SUB: val(s0)-val(s1). MUL: val(s0)*val(s1). "
      + "All with 32-bit two's complement wrap-around, as Java int arithmetic does.");
    int min = Integer.MIN_VALUE;
    int max = Integer.MAX_VALUE;
    computes("max + 1", ADD, max, 1, min);
    computes("max + max", ADD, max, max, -2);
    computes("min + -1", ADD, min, -1, max);
    computes("min + min", ADD, min, min, 0);
    computes("min - 1", SUB, min, 1, max);
    computes("max - -1", SUB, max, -1, min);
    computes("0 - min", SUB, 0, min, min);
    computes("-1 - max", SUB, -1, max, min);
    computes("-2 - max", SUB, -2, max, max);
    computes("min * -1", MUL, min, -1, min);
    computes("min * min", MUL, min, min, 0);
    computes("max * max", MUL, max, max, 1);
    computes("max * 2", MUL, max, 2, -2);
    computes("46341 * 46341", MUL, 46341, 46341, -2147479015);
    computes("65536 * 65536", MUL, 65536, 65536, 0);
    computes("65536 * 32768", MUL, 65536, 32768, min);
  }

  private static void computes(String what, int kind, int a, int b, int value) {
    IncrAttrEval t = new IncrAttrEval(8);
    t.newNum(a);
    t.newNum(b);
    t.newOp(kind, 0, 1);
    t.setRoot(2);
    check.same(what, t.getVal(2), value);
  }

  private static void valueOfALet() {
    check.about(PLACE, "LET: val(s1).");
    for (int c : new int[] {Integer.MIN_VALUE, -1, 0, 1, Integer.MAX_VALUE}) {
      IncrAttrEval t = new IncrAttrEval(8);
      t.newNum(77);
      t.newNum(c);
      t.setRoot(t.newLet(0, 0, 1));
      check.same("value of a let with the body " + c, t.getVal(2), c);
    }
  }

  private static void errsAddUp() {
    check.about(PLACE, "errs(n): VAR with name x: 0 if bound(n,x), otherwise 1. NUM: 0. "
      + "ADD, SUB, MUL, LET: errs(s0)+errs(s1).");
    for (int kind = ADD; kind <= IncrAttrEval.LET; kind++) {
      check.same("no errs, kind " + kind, errsOf(kind, false, false), 0);
      check.same("an err in slot 0, kind " + kind, errsOf(kind, true, false), 1);
      check.same("an err in slot 1, kind " + kind, errsOf(kind, false, true), 1);
      check.same("errs in both slots, kind " + kind, errsOf(kind, true, true), 2);
    }
  }

  private static int errsOf(int kind, boolean in0, boolean in1) {
    IncrAttrEval t = new IncrAttrEval(8);
    int a = in0 ? t.newVar(1) : t.newNum(1);
    int b = in1 ? t.newVar(2) : t.newNum(2);
    int n = kind == IncrAttrEval.LET ? t.newLet(1, a, b) : t.newOp(kind, a, b);
    t.setRoot(n);
    return t.getErrs(n);
  }

  private static void sizesAddUp() {
    check.about(PLACE, "size(n): NUM, VAR: 1. ADD, SUB, MUL, LET: 1+size(s0)+size(s1).");
    for (int kind = ADD; kind <= IncrAttrEval.LET; kind++) {
      for (int slot = 0; slot < 2; slot++) {
        IncrAttrEval t = Forest.make(9);
        int a = slot == 0 ? 5 : 7;
        int b = slot == 0 ? 7 : 5;
        int n = kind == IncrAttrEval.LET ? t.newLet(1, a, b) : t.newOp(kind, a, b);
        t.setRoot(n);
        check.same("size of a NUM", t.getSize(3), 1);
        check.same("size of a VAR", t.getSize(7), 1);
        check.same("size of a SUB", t.getSize(5), 3);
        check.same("size of kind " + kind + " over sizes 1 and 3", t.getSize(n), 5);
      }
    }
  }

  private static void earlierPlacesHaveNoEffect() {
    check.about(PLACE, "After every call the getters answer that solution for the tree as it then is; values a node had "
      + "while detached or in an earlier place have no effect on any answer.");
    check.same("runs of two splices", eachTwoSplices((when, t, m) -> {
      check.same(when + ", every answer", Checker.picture(t), m.picture());
    }) > 1000, true);
  }

  private interface Look {
    void at(String when, IncrAttrEval t, Model m);
  }

  /** Looks at the twenty nodes after each splice, and then after each further one; answers how many runs there were. */
  private static int eachTwoSplices(Look look) {
    int runs = 0;
    for (int first = 0; first < 400; first++) {
      Model before = new Model(20);
      build(new IncrAttrEval(20), before);
      if (!before.replace(first / 20, first % 20)) {
        continue;
      }
      for (int second = 0; second < 400; second++) {
        if (before.attached(second / 20) && before.free(second % 20)) {
          splice(first, second, look);
          runs++;
        }
      }
    }
    return runs;
  }

  private static void splice(int first, int second, Look look) {
    IncrAttrEval t = new IncrAttrEval(20);
    Model m = new Model(20);
    build(t, m);
    String when = "";
    for (int call : new int[] {first, second}) {
      when += "replace(" + call / 20 + ", " + call % 20 + ") ";
      m.replace(call / 20, call % 20);
      check.same(when, t.replace(call / 20, call % 20), true);
      look.at(when, t, m);
    }
  }

  /** Twenty nodes of every kind, with names 0 and 1 bound, used and hidden; the root is the let 8. */
  private static void build(IncrAttrEval t, Model m) {
    add(t, m, NUM, 3, NONE, NONE);
    add(t, m, IncrAttrEval.VAR, 1, NONE, NONE);
    add(t, m, ADD, 0, 0, 1);
    add(t, m, IncrAttrEval.VAR, 0, NONE, NONE);
    add(t, m, IncrAttrEval.VAR, 1, NONE, NONE);
    add(t, m, MUL, 0, 3, 4);
    add(t, m, NUM, 5, NONE, NONE);
    add(t, m, IncrAttrEval.LET, 1, 6, 5);
    add(t, m, IncrAttrEval.LET, 0, 2, 7);
    add(t, m, NUM, Integer.MAX_VALUE, NONE, NONE);
    add(t, m, IncrAttrEval.VAR, 0, NONE, NONE);
    add(t, m, SUB, 0, 9, 10);
    add(t, m, NUM, 0, NONE, NONE);
    add(t, m, IncrAttrEval.VAR, 7, NONE, NONE);
    add(t, m, IncrAttrEval.LET, 7, 12, 13);
    add(t, m, NUM, -8, NONE, NONE);
    add(t, m, IncrAttrEval.VAR, 0, NONE, NONE);
    add(t, m, IncrAttrEval.LET, 0, 15, 16);
    add(t, m, IncrAttrEval.VAR, 1, NONE, NONE);
    add(t, m, NUM, 1 << 30, NONE, NONE);
    t.setRoot(8);
    m.setRoot(8);
  }

  private static void add(IncrAttrEval t, Model m, int kind, int payload, int a, int b) {
    int due;
    int got;
    if (kind == NUM) {
      due = m.make(NUM, payload, NONE, NONE);
      got = t.newNum(payload);
    } else if (kind == IncrAttrEval.VAR) {
      due = m.newVar(payload);
      got = t.newVar(payload);
    } else if (kind == IncrAttrEval.LET) {
      due = m.newLet(payload, a, b);
      got = t.newLet(payload, a, b);
    } else {
      due = m.newOp(kind, a, b);
      got = t.newOp(kind, a, b);
    }
    check.same("id of the node of kind " + kind, got, due);
  }

  private static void likeAFreshObject() {
    check.about(PLACE, "Equivalently, for each attached node the attribute getters answer what a fresh object of the same "
      + "capacity would answer for the corresponding node (its id may differ) after the same tree (same kinds, payloads "
      + "and slot order) were built into it by creation calls alone and then made root by one `setRoot`");
    check.same("runs of two splices", eachTwoSplices((when, t, m) -> {
      m.sameAsFreshBuild(check, when, t, 20);
    }) > 1000, true);
  }

  private static void notAttachedAnswers() {
    check.about(PLACE, "ids that are not attached, and every id when the root is NONE, get the not-attached answers.");
    for (int capacity : new int[] {8, 9, 32}) {
      IncrAttrEval t = Forest.make(capacity);
      for (int n : Forest.DETACHED) {
        looksNotAttached("free", t, n);
      }
      for (int n : Forest.notValid()) {
        looksNotAttached("not valid", t, n);
      }
      IncrAttrEval rootless = new IncrAttrEval(capacity);
      rootless.newNum(3);
      rootless.newVar(0);
      rootless.newLet(0, 0, 1);
      rootless.newNum(4);
      for (int n : Forest.manyIds()) {
        looksNotAttached("without root", rootless, n);
        looksNotAttached("in a new object", new IncrAttrEval(capacity), n);
      }
    }
  }

  private static void looksNotAttached(String when, IncrAttrEval t, int n) {
    String none = " val 0 errs -1 size -1 depth -1 env 0u 0u 0u 0u 0u 0u 0u 0u 0u 0u";
    check.same("id " + n + " (" + when + ")", Checker.attributes(t, n), none);
  }
}
