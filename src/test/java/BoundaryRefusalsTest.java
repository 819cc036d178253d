import java.util.function.ToIntFunction;

/**
 * The section "Refusals": every way in which conditions of one method can hold together. The methods
 * answer all their refusals alike, so the order of the conditions shows only in that no combination
 * of them makes a call succeed, answer otherwise, or change anything.
 */
public final class BoundaryRefusalsTest {
  private static final String WORDS = "For each method the conditions are examined in the order listed; the first "
    + "condition that holds refuses the call, which then changes nothing at all and gives the answer stated.";
  private static final int NONE = IncrAttrEval.NONE;
  private static final int[] NAMES = {Integer.MIN_VALUE, -1, 0, 7, 8, Integer.MAX_VALUE};
  // Two free roots and one id for each way not to be one: far, NONE, attached, the root, held, not yet made.
  private static final int[] IDS = {Integer.MIN_VALUE, NONE, 0, 2, 4, 5, 6, 8, 32, Integer.MAX_VALUE};
  private static final int[] CAPACITIES = {8, 9, 32};
  private static final Checker check = new Checker();

  public static void main(String[] args) {
    newNumAndNewVar();
    newOp();
    newLet();
    setRootAndReplace();
    check.end();
  }

  private static boolean isName(int x) {
    return x == 0 || x == 7;
  }

  private static boolean isFree(int n) {
    return n == 5 || n == 6;
  }

  private static void newNumAndNewVar() {
    check.about("Refusals (promises 2 and 3)", WORDS);
    for (int capacity : CAPACITIES) {
      for (int x : NAMES) {
        boolean full = capacity == 8;
        creates("newNum(" + x + ")", capacity, t -> t.newNum(x), !full);
        creates("newVar(" + x + ")", capacity, t -> t.newVar(x), !full && isName(x));
      }
    }
  }

  private static void newOp() {
    check.about("Refusals (promise 4)", WORDS);
    for (int capacity : CAPACITIES) {
      for (int kind : new int[] {Integer.MIN_VALUE, 0, 2, 3, 4, 5, 6, Integer.MAX_VALUE}) {
        for (int a : IDS) {
          for (int b : IDS) {
            boolean taken = kind >= 3 && kind <= 5 && isFree(a) && isFree(b) && a != b && capacity != 8;
            creates("newOp(" + kind + ", " + a + ", " + b + ")", capacity, t -> t.newOp(kind, a, b), taken);
          }
        }
      }
    }
  }

  private static void newLet() {
    check.about("Refusals (promise 5)", WORDS);
    for (int capacity : CAPACITIES) {
      for (int x : NAMES) {
        for (int a : IDS) {
          for (int b : IDS) {
            boolean taken = isName(x) && isFree(a) && isFree(b) && a != b && capacity != 8;
            creates("newLet(" + x + ", " + a + ", " + b + ")", capacity, t -> t.newLet(x, a, b), taken);
          }
        }
      }
    }
  }

  private static void creates(String call, int capacity, ToIntFunction<IncrAttrEval> ask,
      boolean taken) {
    String what = call + ", capacity " + capacity;
    if (taken) {
      check.same(what, ask.applyAsInt(Forest.make(capacity)), Forest.MADE);
    } else {
      Forest.refused(check, what, () -> Forest.make(capacity), ask, NONE);
    }
  }

  private static void setRootAndReplace() {
    check.about("Refusals (promises 6 and 7)", WORDS);
    for (int capacity : CAPACITIES) {
      for (int a : IDS) {
        changes("setRoot(" + a + ")", capacity, t -> t.setRoot(a) ? 1 : 0, isFree(a));
        for (int b : IDS) {
          boolean taken = (a == 0 || a == 2) && isFree(b);
          changes("replace(" + a + ", " + b + ")", capacity, t -> t.replace(a, b) ? 1 : 0, taken);
        }
      }
    }
  }

  private static void changes(String call, int capacity, ToIntFunction<IncrAttrEval> ask,
      boolean taken) {
    String what = call + ", capacity " + capacity;
    if (taken) {
      check.same(what, ask.applyAsInt(Forest.make(capacity)), 1);
    } else {
      Forest.refused(check, what, () -> Forest.make(capacity), ask, 0);
    }
  }
}
