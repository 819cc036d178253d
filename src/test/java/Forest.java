import java.util.Arrays;
import java.util.function.Consumer;
import java.util.function.Supplier;
import java.util.function.ToIntFunction;

/** What the boundary tests share: objects to begin with, wrong arguments, and comparisons with a twin. */
final class Forest {
  static final int NONE = IncrAttrEval.NONE;
  static final int MIN = Integer.MIN_VALUE;
  static final int MAX = Integer.MAX_VALUE;

  /**
   * Ids that no object can have: just outside, far outside, and those that would look like small
   * ids if they were cut to a byte or a short or multiplied by NAMES with wrap-around.
   */
  static final int[] NEVER_VALID = {MIN, MIN + 1, -65536, -256, -33, -32, -9, -8, -2, -1,
    32, 33, 64, 255, 256, 257, 65536, 65537, 1 << 29, (1 << 29) + 1, 1 << 30, MAX - 1, MAX};

  /** Ints that are not names, chosen likewise. */
  static final int[] NOT_NAMES = {MIN, MIN + 1, -65536, -256, -16, -9, -8, -7, -2, -1,
    8, 9, 15, 16, 255, 256, 257, 264, 65536, 65537, 1 << 29, 1 << 30, MAX - 1, MAX};

  // The ids of the forest below, by what they are.
  static final int ROOT = 2;
  static final int[] ATTACHED = {0, 1, 2};
  static final int[] FREE_ROOTS = {5, 6, 7};
  static final int[] HAVE_PARENT = {0, 1, 3, 4};
  static final int[] DETACHED = {3, 4, 5, 6, 7};
  static final int MADE = 8;

  private Forest() {}

  /**
   * The root 2, let 0 = 3 in name 0, over 0 and 1; the free root 5, 10 - name 1, over 3 and 4; and
   * two free leaves: 6, the constant 20, and 7, name 0. With capacity 8 the object is full.
   */
  static IncrAttrEval make(int capacity) {
    IncrAttrEval t = new IncrAttrEval(capacity);
    t.newNum(3);
    t.newVar(0);
    t.newLet(0, 0, 1);
    t.newNum(10);
    t.newVar(1);
    t.newOp(IncrAttrEval.SUB, 3, 4);
    t.newNum(20);
    t.newVar(0);
    t.setRoot(ROOT);
    return t;
  }

  /** An object with nothing but NUM nodes 0, 1, 2, ... whose constants are 100 and their id. */
  static IncrAttrEval nums(int capacity, int made) {
    IncrAttrEval t = new IncrAttrEval(capacity);
    for (int n = 0; n < made; n++) {
      t.newNum(100 + n);
    }
    return t;
  }

  /** The ids that are not valid in a forest of capacity 32: the next to be made, and all beyond. */
  static int[] notValid() {
    int[] ids = new int[NEVER_VALID.length + 32 - MADE];
    System.arraycopy(NEVER_VALID, 0, ids, 0, NEVER_VALID.length);
    for (int n = MADE; n < 32; n++) {
      ids[NEVER_VALID.length + n - MADE] = n;
    }
    return ids;
  }

  /** Every id from 0 to 31, and those that are never valid. */
  static int[] manyIds() {
    int[] ids = new int[NEVER_VALID.length + 32];
    System.arraycopy(NEVER_VALID, 0, ids, 32, NEVER_VALID.length);
    for (int n = 0; n < 32; n++) {
      ids[n] = n;
    }
    return ids;
  }

  /** What is looked at in eachShape. */
  interface Look {
    void at(String when, IncrAttrEval t);
  }

  /** Looks at the forest as it is made, and after every run of up to that many changes. */
  static void eachShape(int changes, Look look) {
    shapesAfter(new int[0], changes, look);
  }

  private static void shapesAfter(int[] run, int more, Look look) {
    IncrAttrEval t = make(8);
    String when = "after";
    for (int call : run) {
      when += call < 64 ? " replace(" + call / 8 + ", " + call % 8 + ")" : " setRoot(" + call % 8 + ")";
      if (!change(t, call)) {
        return;
      }
    }
    look.at(when, t);
    for (int call = 0; more > 0 && call < 72; call++) {
      int[] longer = Arrays.copyOf(run, run.length + 1);
      longer[run.length] = call;
      shapesAfter(longer, more - 1, look);
    }
  }

  private static boolean change(IncrAttrEval t, int call) {
    return call < 64 ? t.replace(call / 8, call % 8) : t.setRoot(call % 8);
  }

  /**
   * A picture of what the getters don't show at once: kinds, payloads and slots of the nodes that
   * are not attached, too. Every free root is made the root for a while, then put, as far as there
   * is room, where each name is bound to a value of its own. The object is not of use afterwards.
   */
  static String everything(IncrAttrEval t) {
    int made = t.nodeCount();
    StringBuilder s = new StringBuilder(Checker.picture(t));
    for (int n = 0; n < made; n++) {
      if (t.setRoot(n)) {
        s.append(Checker.picture(t));
      }
    }
    int hole = t.newNum(0);
    t.setRoot(bindAllNames(t, hole));
    for (int n = 0; n < made; n++) {
      if (t.replace(hole, n)) {
        s.append(Checker.picture(t));
        hole = n;
      }
    }
    return s.toString();
  }

  /** Puts lets for all names over the node, as far as there is room, and answers the topmost. */
  static int bindAllNames(IncrAttrEval t, int n) {
    int top = n;
    for (int x = IncrAttrEval.NAMES - 1; x >= 0; x--) {
      int init = t.newNum(1000 + 7 * x);
      int let = t.newLet(x, init, top);
      top = let == NONE ? top : let;
    }
    return top;
  }

  /** A call that is refused with this answer, and after which the object is like one that was never asked. */
  static void refused(Checker check, String call, Supplier<IncrAttrEval> make,
      ToIntFunction<IncrAttrEval> ask, int answer) {
    IncrAttrEval t = make.get();
    check.same(call, ask.applyAsInt(t), answer);
    likeTwin(check, "after " + call, t, make.get());
  }

  /**
   * Questions that change nothing, whatever they answer. A twin would not do here, as it must be
   * asked too; so the answers before and later on are compared with the model's.
   */
  static void unchanged(Checker check, String calls, int capacity, Consumer<IncrAttrEval> ask) {
    IncrAttrEval t = make(capacity);
    Model m = model(capacity);
    ask.accept(t);
    check.same("after " + calls + ", every answer", Checker.picture(t), m.picture());
    for (int id : new int[] {5, 6, 7, ROOT}) {
      ask.accept(t);
      check.same("after " + calls + ", setRoot(" + id + ")", t.setRoot(id), m.setRoot(id));
      check.same("after " + calls + " and setRoot, every answer", Checker.picture(t), m.picture());
    }
    for (int nw : FREE_ROOTS) {
      int old = nw == 5 ? 1 : nw - 1;
      ask.accept(t);
      check.same("after " + calls + ", replace by " + nw, t.replace(old, nw), m.replace(old, nw));
      check.same("after " + calls + " and replace, every answer", Checker.picture(t), m.picture());
    }
    ask.accept(t);
    check.same("after " + calls + ", newNum", t.newNum(50), m.make(IncrAttrEval.NUM, 50, NONE, NONE));
    check.same("after " + calls + ", newLet", t.newLet(1, MADE, 5), m.newLet(1, MADE, 5));
    check.same("after " + calls + ", setRoot", t.setRoot(MADE + 1), m.setRoot(MADE + 1));
    check.same("after " + calls + " and newLet, every answer", Checker.picture(t), m.picture());
  }

  private static Model model(int capacity) {
    Model m = new Model(capacity);
    m.make(IncrAttrEval.NUM, 3, NONE, NONE);
    m.newVar(0);
    m.newLet(0, 0, 1);
    m.make(IncrAttrEval.NUM, 10, NONE, NONE);
    m.newVar(1);
    m.newOp(IncrAttrEval.SUB, 3, 4);
    m.make(IncrAttrEval.NUM, 20, NONE, NONE);
    m.newVar(0);
    m.setRoot(ROOT);
    return m;
  }

  static void likeTwin(Checker check, String what, IncrAttrEval t, IncrAttrEval twin) {
    check.same(what + ", every answer", Checker.picture(t), Checker.picture(twin));
    check.same(what + ", every answer later on", everything(t), everything(twin));
  }
}
