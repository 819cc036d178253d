import java.util.function.Consumer;
import java.util.function.ToIntBiFunction;

/** Promises 12 to 16, sentence by sentence: the attribute getters at their edges. */
public final class BoundaryAttributeGettersTest {
  private static final int ADD = IncrAttrEval.ADD;
  private static final int SUB = IncrAttrEval.SUB;
  private static final int MUL = IncrAttrEval.MUL;
  private static final int MIN = Integer.MIN_VALUE;
  private static final int MAX = Integer.MAX_VALUE;
  private static final int NAMES = IncrAttrEval.NAMES;
  private static final Checker check = new Checker();

  public static void main(String[] args) {
    valuesWrapAround();
    valueOfWhatIsNotAttached();
    zeroDoesNotTellApart();
    errsOfWhatIsAttached();
    errsOfWhatIsNotAttached();
    sizeOfWhatIsAttached();
    sizeOfWhatIsNotAttached();
    depthOfWhatIsAttached();
    depthOfWhatIsNotAttached();
    envOfEveryName();
    envOutside();
    boundOfEveryName();
    boundOutside();
    boundInTheBodyOnly();
    nearestLetCounts();
    notBoundIsZero();
    gettersChangeNothing();
    check.end();
  }

  /** Asks about every id that is not attached: not valid, free, below a free root, displaced. */
  private static void eachNotAttached(Consumer<Case> test) {
    for (int capacity : new int[] {8, 9, 32}) {
      IncrAttrEval t = Forest.make(capacity);
      for (int n : Forest.notValid()) {
        test.accept(new Case("not valid, CAP " + capacity, t, n));
      }
      for (int n : Forest.DETACHED) {
        test.accept(new Case("free", t, n));
      }
      t.setRoot(5);
      for (int n : new int[] {0, 1, 2, 6, 7}) {
        test.accept(new Case("under the old root or free", t, n));
      }
      t.setRoot(2);
      t.replace(1, 5);
      t.replace(5, 7);
      for (int n : new int[] {1, 3, 4, 5, 6}) {
        test.accept(new Case("displaced or free", t, n));
      }
      IncrAttrEval rootless = Forest.nums(capacity, 8);
      for (int n = -1; n <= 32; n++) {
        test.accept(new Case("without root", rootless, n));
        test.accept(new Case("in a new object", new IncrAttrEval(capacity), n));
      }
    }
  }

  private static final class Case {
    final String when;
    final IncrAttrEval t;
    final int n;

    Case(String when, IncrAttrEval t, int n) {
      this.when = when;
      this.t = t;
      this.n = n;
    }

    String call(String getter) {
      return getter + " of " + n + " (" + when + ")";
    }
  }

  private static void valuesWrapAround() {
    check.about("Promise 12", "`getVal(int n)` answers val(n) when n is an attached node, following the equations "
      + "with 32-bit wrap-around");
    int[] edges = {MIN, MIN + 1, -65536, -46341, -2, -1, 0, 1, 2, 46340, 46341, 65535, 65536, MAX / 2 + 1, MAX - 1, MAX};
    for (int a : edges) {
      for (int b : edges) {
        computes(ADD, a, b, (int) ((long) a + b));
        computes(SUB, a, b, (int) ((long) a - b));
        computes(MUL, a, b, (int) ((long) a * b));
      }
    }
    computes(ADD, MAX, 1, MIN);
    computes(ADD, MIN, MIN, 0);
    computes(SUB, MIN, 1, MAX);
    computes(SUB, 0, MIN, MIN);
    computes(MUL, MIN, -1, MIN);
    computes(MUL, 65536, 65536, 0);
    wrapsInAChain();
  }

  private static void computes(int kind, int a, int b, int value) {
    IncrAttrEval t = new IncrAttrEval(8);
    t.newNum(a);
    t.newNum(b);
    t.newOp(kind, 0, 1);
    t.setRoot(2);
    check.same("kind " + kind + " of " + a + " and " + b, t.getVal(2), value);
  }

  /** A wrapped value goes on being used: up the tree, and through a let into a body. */
  private static void wrapsInAChain() {
    IncrAttrEval t = new IncrAttrEval(32);
    int top = t.newNum(3);
    int value = 3;
    for (int i = 0; i < 13; i++) {
      top = t.newOp(MUL, top, t.newNum(MAX - i));
      value *= MAX - i;
    }
    int use = t.newVar(6);
    top = t.newLet(6, top, use);
    t.setRoot(top);
    check.same("value of a long product", t.getVal(top), value);
    check.same("the name bound to it", t.getEnv(use, 6), value);
  }

  private static void valueOfWhatIsNotAttached() {
    check.about("Promise 12", "0 when n is not an attached node (not a valid id, or detached).");
    eachNotAttached(c -> check.same(c.call("getVal"), c.t.getVal(c.n), 0));
  }

  private static void zeroDoesNotTellApart() {
    check.about("Promise 12", "A 0 answer by itself does not tell the two cases apart.");
    IncrAttrEval t = Forest.nums(8, 2);
    int zero = t.newNum(0);
    t.setRoot(zero);
    check.same("value of an attached 0", t.getVal(zero), 0);
    check.same("which is attached", t.getDepth(zero), 0);
    t.setRoot(1);
    check.same("value of a detached 0", t.getVal(zero), 0);
    check.same("value of a detached 100", t.getVal(0), 0);
  }

  private static void errsOfWhatIsAttached() {
    check.about("Promise 13", "`getErrs(int n)` answers errs(n), the number of VAR nodes in the subtree of n whose name "
      + "is not bound at them, when n is an attached node");
    for (int vars = 1; vars <= 16; vars++) {
      IncrAttrEval t = new IncrAttrEval(32);
      int top = t.newVar(0);
      for (int i = 1; i < vars; i++) {
        top = t.newOp(SUB, top, t.newVar(i % NAMES));
      }
      t.setRoot(top);
      check.same("errs of " + vars + " unbound VARs", t.getErrs(top), vars);
      check.same("errs of the first of them", t.getErrs(0), 1);
    }
    IncrAttrEval t = Forest.make(8);
    check.same("errs of a NUM", t.getErrs(0), 0);
    check.same("errs of a bound VAR", t.getErrs(1), 0);
    check.same("errs of a let without", t.getErrs(2), 0);
    t.replace(0, 7);
    check.same("errs of a VAR in the init of its own let", t.getErrs(7), 1);
    check.same("errs of that let", t.getErrs(2), 1);
    check.same("errs of its body, bound to the unbound", t.getErrs(1), 0);
  }

  private static void errsOfWhatIsNotAttached() {
    check.about("Promise 13", "-1 when n is not an attached node.");
    eachNotAttached(c -> check.same(c.call("getErrs"), c.t.getErrs(c.n), -1));
  }

  private static void sizeOfWhatIsAttached() {
    check.about("Promise 14", "`getSize(int n)` answers size(n), the number of nodes in the subtree of n, "
      + "when n is an attached node");
    for (int size = 1; size <= 31; size += 2) {
      IncrAttrEval t = new IncrAttrEval(size);
      int top = t.newNum(0);
      for (int made = 1; made < size; made += 2) {
        int leaf = t.newVar(0);
        top = t.newOp(MUL, leaf, top);
      }
      t.setRoot(top);
      check.same("size of a tree of " + size, t.getSize(top), size);
      check.same("size of a leaf below it", t.getSize(0), 1);
    }
    IncrAttrEval t = Forest.make(8);
    check.same("size of a NUM", t.getSize(0), 1);
    check.same("size of a VAR", t.getSize(1), 1);
    check.same("size of a let", t.getSize(2), 3);
  }

  private static void sizeOfWhatIsNotAttached() {
    check.about("Promise 14", "-1 when n is not an attached node.");
    eachNotAttached(c -> check.same(c.call("getSize"), c.t.getSize(c.n), -1));
  }

  private static void depthOfWhatIsAttached() {
    check.about("Promise 15", "`getDepth(int n)` answers depth(n) when n is an attached node (0 for the root)");
    for (int side = 0; side < 2; side++) {
      IncrAttrEval t = new IncrAttrEval(32);
      int top = t.newNum(0);
      for (int i = 0; i < 15; i++) {
        int leaf = t.newNum(1);
        top = side == 0 ? t.newOp(ADD, top, leaf) : t.newLet(0, leaf, top);
      }
      t.setRoot(top);
      check.same("depth of the root", t.getDepth(30), 0);
      check.same("depth of the end", t.getDepth(0), 15);
      for (int n = 1; n < 30; n += 2) {
        check.same("depth of leaf " + n, t.getDepth(n), (31 - n) / 2);
        check.same("depth of inner node " + (n + 1), t.getDepth(n + 1), (29 - n) / 2);
      }
    }
    IncrAttrEval t = Forest.nums(8, 1);
    t.setRoot(0);
    check.same("depth of a lone root", t.getDepth(0), 0);
  }

  private static void depthOfWhatIsNotAttached() {
    check.about("Promise 15", "-1 when n is not an attached node.");
    eachNotAttached(c -> check.same(c.call("getDepth"), c.t.getDepth(c.n), -1));
  }

  /** All names are bound at node 0, name x to 1000 + 7x; the lets have the ids 2, 4, .. 16 for 7, 6, .. 0. */
  private static IncrAttrEval allBound() {
    IncrAttrEval t = new IncrAttrEval(32);
    int top = Forest.bindAllNames(t, t.newNum(0));
    t.setRoot(top);
    return t;
  }

  private static void envOfEveryName() {
    check.about("Promise 16", "`getEnv(int n, int x)` answers value(n,x) when n is an attached node and 0 <= x < NAMES");
    IncrAttrEval t = allBound();
    for (int x = 0; x < NAMES; x++) {
      check.same("getEnv(0, " + x + ")", t.getEnv(0, x), 1000 + 7 * x);
      check.same("getEnv of the root, " + x, t.getEnv(16, x), 0);
      for (int y = 0; y < NAMES; y++) {
        int let = 16 - 2 * y;
        check.same("getEnv(" + let + ", " + x + ")", t.getEnv(let, x), x < y ? 1000 + 7 * x : 0);
        check.same("getEnv(" + (let - 1) + ", " + x + ")", t.getEnv(let - 1, x), x < y ? 1000 + 7 * x : 0);
      }
    }
    for (int c : new int[] {MIN, -1, 0, 1, MAX}) {
      IncrAttrEval edge = Forest.make(9);
      edge.replace(0, edge.newNum(c));
      check.same("getEnv of a name bound to " + c, edge.getEnv(1, 0), c);
    }
  }

  private static void envOutside() {
    check.about("Promise 16", "0 when n is not an attached node or x < 0 or x >= NAMES. [getEnv]");
    IncrAttrEval t = allBound();
    for (int n = 0; n <= 16; n++) {
      for (int x : Forest.NOT_NAMES) {
        check.same("getEnv(" + n + ", " + x + ")", t.getEnv(n, x), 0);
      }
    }
    for (int n : Forest.NEVER_VALID) {
      for (int x : Forest.NOT_NAMES) {
        check.same("getEnv(" + n + ", " + x + ")", t.getEnv(n, x), 0);
      }
    }
    eachNotAttached(c -> {
      for (int x = -1; x <= NAMES; x++) {
        check.same(c.call("getEnv") + " and " + x, c.t.getEnv(c.n, x), 0);
      }
    });
  }

  private static void boundOfEveryName() {
    check.about("Promise 16", "`isBound(int n, int x)` answers bound(n,x) when n is an attached node and 0 <= x < NAMES");
    IncrAttrEval t = allBound();
    for (int x = 0; x < NAMES; x++) {
      check.same("isBound(0, " + x + ")", t.isBound(0, x), true);
      check.same("isBound of the root, " + x, t.isBound(16, x), false);
      for (int y = 0; y < NAMES; y++) {
        int let = 16 - 2 * y;
        check.same("isBound(" + let + ", " + x + ")", t.isBound(let, x), x < y);
        check.same("isBound(" + (let - 1) + ", " + x + ")", t.isBound(let - 1, x), x < y);
      }
    }
  }

  private static void boundOutside() {
    check.about("Promise 16", "false when n is not an attached node or x < 0 or x >= NAMES. [isBound]");
    IncrAttrEval t = allBound();
    for (int n = 0; n <= 16; n++) {
      for (int x : Forest.NOT_NAMES) {
        check.same("isBound(" + n + ", " + x + ")", t.isBound(n, x), false);
      }
    }
    for (int n : Forest.NEVER_VALID) {
      for (int x : Forest.NOT_NAMES) {
        check.same("isBound(" + n + ", " + x + ")", t.isBound(n, x), false);
      }
    }
    eachNotAttached(c -> {
      for (int x = -1; x <= NAMES; x++) {
        check.same(c.call("isBound") + " and " + x, c.t.isBound(c.n, x), false);
      }
    });
  }

  /** Root 8, let x = (let x = 5 in 6) in ((let x = 7 in 8) + 9): ids are 0 to 2, 3 to 5, 6, 7, 8. */
  private static IncrAttrEval letsBeside(int x) {
    IncrAttrEval t = new IncrAttrEval(9);
    t.newNum(5);
    t.newNum(6);
    t.newLet(x, 0, 1);
    t.newNum(7);
    t.newNum(8);
    t.newLet(x, 3, 4);
    t.newNum(9);
    t.newOp(ADD, 5, 6);
    t.newLet(x, 2, 7);
    t.setRoot(8);
    return t;
  }

  private static void boundInTheBodyOnly() {
    check.about("Promise 16", "By the equations, bound(n,x) is true exactly when n lies in the body (slot 1 subtree) "
      + "of some LET with name x that is an ancestor of n");
    boolean[] bound = {false, true, false, true, true, true, true, true, false};
    for (int x = 0; x < NAMES; x++) {
      IncrAttrEval t = letsBeside(x);
      for (int n = 0; n < bound.length; n++) {
        for (int y = 0; y < NAMES; y++) {
          check.same("isBound(" + n + ", " + y + ") under lets of " + x, t.isBound(n, y), y == x && bound[n]);
        }
      }
    }
  }

  private static void nearestLetCounts() {
    check.about("Promise 16", "value(n,x) is then val of the init of the nearest ancestor LET named x whose body holds n");
    int[] value = {0, 5, 0, 6, 7, 6, 6, 6, 0};
    for (int x = 0; x < NAMES; x++) {
      IncrAttrEval t = letsBeside(x);
      for (int n = 0; n < value.length; n++) {
        check.same("getEnv(" + n + ", " + x + ")", t.getEnv(n, x), value[n]);
      }
    }
    boundToZeroHidesTheOuter();
  }

  /** A name bound to 0, or to what is itself unbound, is bound all the same. */
  private static void boundToZeroHidesTheOuter() {
    for (int zero = 0; zero < 2; zero++) {
      IncrAttrEval t = new IncrAttrEval(8);
      int init = zero == 0 ? t.newNum(0) : t.newVar(5);
      int use = t.newVar(2);
      int inner = t.newLet(2, init, use);
      int outer = t.newLet(2, t.newNum(9), inner);
      t.setRoot(outer);
      check.same("isBound to 0", t.isBound(use, 2), true);
      check.same("getEnv of the name bound to 0", t.getEnv(use, 2), 0);
      check.same("value of its use", t.getVal(use), 0);
      check.same("errs of its use", t.getErrs(use), 0);
      check.same("getEnv at the inner init", t.getEnv(init, 2), 9);
      check.same("errs of the whole", t.getErrs(outer), zero);
    }
  }

  private static void notBoundIsZero() {
    check.about("Promise 16", "and 0 when x is not bound at n.");
    for (int y = 0; y < NAMES; y++) {
      IncrAttrEval t = allBound();
      int moved = t.newNum(4);
      t.replace(0, moved);
      t.replace(moved, 0);
      check.same("replace of the let of " + y, t.replace(16 - 2 * y, moved), true);
      for (int x = 0; x < NAMES; x++) {
        String what = " of " + x + " where the let of " + y + " was";
        check.same("isBound" + what, t.isBound(moved, x), x < y);
        check.same("getEnv" + what, t.getEnv(moved, x), x < y ? 1000 + 7 * x : 0);
      }
    }
  }

  private static void gettersChangeNothing() {
    changesNothing("Promise 12", "getVal", IncrAttrEval::getVal);
    changesNothing("Promise 13", "getErrs", IncrAttrEval::getErrs);
    changesNothing("Promise 14", "getSize", IncrAttrEval::getSize);
    changesNothing("Promise 15", "getDepth", IncrAttrEval::getDepth);
    check.about("Promise 16", "Neither method changes anything.");
    for (int n : Forest.manyIds()) {
      Forest.unchanged(check, "getEnv and isBound of " + n, 32, t -> askEveryName(t, n));
    }
  }

  private static void changesNothing(String promise, String name, ToIntBiFunction<IncrAttrEval, Integer> getter) {
    check.about(promise, "It changes nothing.");
    for (int n : Forest.manyIds()) {
      Forest.unchanged(check, name + "(" + n + ")", 32, t -> getter.applyAsInt(t, n));
    }
  }

  private static void askEveryName(IncrAttrEval t, int n) {
    for (int x = 0; x < NAMES; x++) {
      t.getEnv(n, x);
      t.isBound(n, x);
    }
    for (int x : Forest.NOT_NAMES) {
      t.getEnv(n, x);
      t.isBound(n, x);
    }
  }
}
